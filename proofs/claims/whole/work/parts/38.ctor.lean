/-! the making of objects: shapes that grow -/
def rs_add (S : rs_Shp) (kd n : Nat) : rs_Shp := (S.1 + 1, fun v => if v = S.1 + 1 then kd else S.2.1 v, fun v => if v = S.1 + 1 then n else S.2.2 v)
def rs_Z (S : rs_Shp) (σ : rs_Mem) : Prop := ∀ v, S.1 < v → ∀ k, rs_I σ v k = 0 ∧ rs_L σ v k = 0 ∧ rs_D σ v k = 0 ∧ rs_R σ v k = 0
def rs_HZ (G : rs_G) (Bm : Nat) (S : rs_Shp) (σ : rs_Mem) (H : Heap) : Prop := rs_H G Bm S σ H ∧ H.size = Bm + S.1 + 1 ∧ rs_Z S σ
def rs_O (U : State) : Prop := va_AO "RouteSpeaker$Peer" U ∧ va_AO "RouteSpeaker$Route" U ∧ (Cond.arrayOver (.array .int)).before #[] U = true
theorem rs_overA_moved {t : FieldType} {args : Array Value} {u U : State} (hvm : u.vm.Alike U.vm) (h : (Cond.arrayOver (.array t)).before args u = true) : (Cond.arrayOver (.array t)).before args U = true := by
  obtain ⟨comp, c, k, h1, h2, h3, h4, h5⟩ := arrayOverA_spec h
  obtain ⟨k', hk', he⟩ := hvm.2.2 _ _ h3
  have hi : (U.vm.classes.findIdx? fun (x : Class) => match x.kind with | .array component _ => component == comp | _ => false) = some c := by
    have key : ∀ vm : Vm, (vm.bare.classes.findIdx? fun (x : Class) => match x.kind with | .array component _ => component == comp | _ => false) = (vm.classes.findIdx? fun (x : Class) => match x.kind with | .array component _ => component == comp | _ => false) := fun vm => by
      simp only [Vm.bare, Array.findIdx?_map]
      rfl
    refine (key U.vm).symm.trans (Eq.trans ?_ ((key u.vm).trans h2))
    first | rw [hvm.bare_eq] | rw [← hvm.bare_eq]
  have hkind : k'.kind = .array comp (.array t) := by rw [he]; exact h4
  have f1 : U.vm.findClass (FieldType.array t).toString = some comp := by rw [hvm.findClass]; exact h1
  have f2 : U.vm.findClass ("[" ++ (FieldType.array t).toString) = some c := by rw [hvm.findClass]; exact h5
  unfold Cond.before Cond.holds
  simp only [Cond.value]
  rw [f1, Option.bind_some]
  refine (congrArg (fun o : Option Nat => (o.bind (fun c => (U.vm.classes[c]?).map fun (k : Class) => match k.kind with | .array _ ty => decide (ty = FieldType.array t) && decide (U.vm.findClass ("[" ++ (FieldType.array t).toString) = some c) | _ => false) == some true)) hi).trans ?_
  simp [hk', hkind, f2]
theorem rs_O.moved {u U : State} (hvm : u.vm.Alike U.vm) (h : rs_O u) : rs_O U := ⟨h.1.moved hvm, h.2.1.moved hvm, rs_overA_moved hvm h.2.2⟩
def rs_PZ (G : rs_G) (Bm : Nat) (S : rs_Shp) (σ : rs_Mem) (vs : List Value) : Array Value → State → Prop := va_Pc vs (fun U => rs_HZ G Bm S σ U.heap ∧ rs_K G U ∧ rs_O U)
def rs_QZ (G : rs_G) (Bm : Nat) (Q : rs_Shp → rs_Mem → Prop) : Array Value → State → Outcome → State → Prop := va_Qv (S := rs_Shp × rs_Mem) (fun u => Q u.1 u.2) (fun u t => rs_HZ G Bm u.1 u.2 t.heap) (rs_A Bm)
theorem rs_blindZ {G : rs_G} {Bm : Nat} {S : rs_Shp} {σ : rs_Mem} {vs : List Value} : FrameBlind (rs_PZ G Bm S σ vs) := fun a U g mk q => by
  obtain ⟨q0, q1, q3, q4⟩ := q
  exact ⟨q0, q1, rs_K.same (u := U) (U := U.calling g mk a) rfl q3, rs_O.moved (u := U) (U := U.calling g mk a) (Vm.Alike.refl U.vm) q4⟩
theorem rs_metZ {own : String} {cc : ByteArray} {nL : Nat} {G : rs_G} {Bm : Nat} {S : rs_Shp} {σ : rs_Mem} {vs : List Value} {Qc : Array Value → State → Outcome → State → Prop} {rm : Room} {y : MethodName} {l : Launch} {mc ms : Nat}
    (hy : plainName y.cls = true) (hown : y.cls = own) (hyi : y.name = "<init>") (hlen : (lg_sl vs).length ≤ nL)
    (body : ∀ (p : Program) (e : Env) (s : State) (m : MethodId) (below : List Frame) (meth : Method) (c : Code) (ls : Array Slot), rs_C own cc nL none G p s m meth c vs.toArray → meth.name = "<init>" ∧ rs_O s → lv_has ls nL (lv_args 0 vs) → rs_HZ G Bm S σ s.heap → va_S (rs_A Bm) s.heap s.heap [] →
      W p l e rm s m vs.toArray below meth c s.heap [] 0 0 (MQ below Qc vs.toArray s mc ms (rs_A Bm)) (F0 m 0 ls [])) : Met l y (rs_ws y cc nL none) rm (rs_PZ G Bm S σ vs) Qc mc ms (rs_A Bm) := by
  refine Met.ofW (cc := cc) (maxL := nL) (ret := none) hy rfl ?_
  intro p e s m args below meth c s₁ B hml hv
  obtain ⟨rfl, hH, hK, hO⟩ := hv
  have hts := atoms_spec (ws := rs_ws y cc nL none) B.pre
  have ho : s.vm.findClass own = some m.cls := by rw [← hown]; exact findClass_of_methodNamed B.named
  have hl := lv_entry vs (n := nL) hlen
  rw [lg_entry_eq]
  exact body p e s m below meth c _ ⟨B.exec, B.bytes, hml, B.returns, ho, fun w hw => hts w (List.mem_cons_of_mem _ hw), hK, B.notSynchronized⟩ ⟨by rw [(name_of_methodNamed B.named B.method).1]; exact hyi, hO⟩ hl hH va_S.rf
theorem rs_dv : ∀ kd, kd < 12 → ∀ k, k < rs_nf kd → rs_rf kd k ≠ 0 → defaultValue (rs_ty kd k) = .null := by decide +kernel
section RCZ
variable {p : Program} {l : Launch} {e : Env} {R : Room} {s : State} {m : MethodId} {args : Array Value} {below : List Frame} {meth : Method} {c : Code} {H : Heap} {locs : List Loc} {cells slots : Nat} {Q : State → Prop}
variable {cc : ByteArray} {pc : Nat} {ls : Array Slot} {rest st0 : List Value} {G : rs_G} {Bm : Nat} {S : rs_Shp} {σ : rs_Mem} {own : String} {nL : Nat} {ret : Option FieldType} {H0 : Heap}
theorem rs_old {kd n v : Nat} (h : v ≤ S.1) : (rs_add S kd n).2.1 v = S.2.1 v ∧ (rs_add S kd n).2.2 v = S.2.2 v := by
  have : v ≠ S.1 + 1 := by omega
  simp [rs_add, this]
theorem rs_Ok.add {kd v k n : Nat} (h : rs_Ok S kd v) : rs_Ok (rs_add S k n) kd v := ⟨h.1, by have := h.2.1; show v ≤ S.1 + 1; omega, by rw [(rs_old h.2.1).1]; exact h.2.2⟩
theorem rs_Ok_new {kd n : Nat} : rs_Ok (rs_add S kd n) kd (S.1 + 1) := ⟨by omega, Nat.le_refl _, by simp [rs_add]⟩
theorem rs_grow {kd n : Nat} {ce : Cell} (hH : rs_HZ G Bm S σ H) (hc : rs_cell G Bm (rs_add S kd n) σ (H.push ce) (S.1 + 1)) : rs_HZ G Bm (rs_add S kd n) σ (H.push ce) := by
  refine ⟨⟨by simp [rs_add]; have := hH.2.1; omega, fun v h0 hn => ?_⟩, by simp [rs_add]; have := hH.2.1; omega, fun v hv k => hH.2.2 v (by have h : S.1 + 1 < v := hv; omega) k⟩
  by_cases hv : v = S.1 + 1
  · subst hv; exact hc
  · have hle : v ≤ S.1 := by have h : v ≤ S.1 + 1 := hn; omega
    have hq : (H.push ce)[Bm + v]? = H[Bm + v]? := by
      have : Bm + v < H.size := by have := hH.2.1; omega
      simp [Array.getElem?_push, Nat.ne_of_lt this]
    have h := hH.1.2 v h0 hle
    refine ⟨fun a b => ?_, fun a b => ?_⟩
    · rw [(rs_old hle).1] at a b ⊢
      exact (h.1 a b).kept hq
    · rw [(rs_old hle).1] at a b ⊢
      rw [(rs_old hle).2, hq]
      exact h.2 a b
theorem rs_newo (C : rs_C own cc nL ret G p s m meth c args) (hH : rs_HZ G Bm S σ H) (hS : va_S (rs_A Bm) H0 H locs) {kd index : Nat} (h1 : 1 ≤ kd) (h2 : kd ≤ 11) (hcl : Cond.classLink own index (rs_cn kd) ∈ rs_W) (hin : Cond.instantiable (rs_cn kd) (rs_nf kd) ∈ rs_W) (hini : Cond.initialized (rs_cn kd) ∈ rs_W) (hce : cells + 1 ≤ R.cells) (hsl : slots + rs_nf kd ≤ R.slots) (hdg : decode cc pc = .ok (.new index, 3))
    (kk : ∀ (S1 : rs_Shp) (v : Nat) (H1 : Heap), S1 = rs_add S kd 0 → v = S.1 + 1 → rs_Ok S1 kd v → rs_HZ G Bm S1 σ H1 → va_S (rs_A Bm) H0 H1 locs → W p l e R s m args below meth c H1 locs (cells + 1) (slots + rs_nf kd) Q (F0 m (pc + 3) ls (.ref (Bm + v) :: rest))) : W p l e R s m args below meth c H locs cells slots Q (F0 m pc ls rest) := by
  obtain ⟨hx, hb, -, -, hown, hts, hK, -⟩ := C
  refine W.newc hx hb hown (hts _ hcl) (hts _ hin) (hts _ hini) rfl hdg hce hsl (fun cC kC q1 q2 q3 q4 => ?_)
  have hKn := hK.1.1 kd _ (rs_cl_at h2)
  have ec : cC = G.1.1 kd := Option.some.inj (q1.symm.trans hKn.2.1)
  have hsz := hH.2.1
  have eA : H.size = Bm + (S.1 + 1) := by omega
  have hcell : (H.push (blank cC kC))[Bm + (S.1 + 1)]? = some (blank cC kC) := by rw [← eA]; simp
  have hOB := u_born (ty := rs_ty kd) hts (rs_lays kd h1 h2) hKn (by rw [← ec]; exact q2) (o := Bm + (S.1 + 1)) (H := H.push (blank cC kC)) (by rw [← ec]; exact hcell) (fun k hk => rs_pd kd (by omega) k hk)
  have hz := hH.2.2 (S.1 + 1) (by omega)
  have hN : (rs_add S kd 0).2.1 (S.1 + 1) = kd := by simp [rs_add]
  have hcel : rs_cell G Bm (rs_add S kd 0) σ (H.push (blank cC kC)) (S.1 + 1) := by
    refine ⟨fun _ _ => ?_, fun a _ => by rw [hN] at a; omega⟩
    rw [hN]
    refine hOB.to (fun k hk => ?_)
    unfold rs_fv
    by_cases hr : rs_rf kd k = 0
    · rw [if_pos hr, rs_kty kd (by omega) k hk hr, (hz k).1]; rfl
    · rw [if_neg hr, rs_dv kd (by omega) k hk hr, (hz k).2.2.2]; rfl
  have k2 := kk (rs_add S kd 0) (S.1 + 1) (H.push (blank cC kC)) rfl rfl rs_Ok_new (rs_grow hH hcel) ⟨by simp; have := hS.1; omega, fun q g1 g2 => by
    have hlt : q < H.size := by have := hS.1; omega
    simp [Array.getElem?_push, Nat.ne_of_lt hlt]
    exact hS.2.1 q g1 g2, hS.2.2⟩
  rw [← eA] at k2
  exact k2
theorem rs_newp (C : rs_C own cc nL ret G p s m meth c args) (hH : rs_HZ G Bm S σ H) (hS : va_S (rs_A Bm) H0 H locs) {kd N : Nat} {n : Int32} {atype : ArrayType} (h0 : (20 ≤ kd ∧ kd ≤ 23) ∧ newarray.typeOf atype = rs_et kd) (harr : Cond.arrayClass (newarray.typeOf atype) ∈ rs_W)
    (hn : ¬ n < 0) (hN : n.toNatClampNeg = N) (hby : N * componentBytes (newarray.typeOf atype) ≤ 536870912) (hce : cells + 1 ≤ R.cells) (hsl : slots + N ≤ R.slots) (hdg : decode cc pc = .ok (.newarray atype, 2))
    (kk : ∀ (S1 : rs_Shp) (v : Nat) (H1 : Heap), S1 = rs_add S kd N → v = S.1 + 1 → rs_Ok S1 kd v → rs_HZ G Bm S1 σ H1 → va_S (rs_A Bm) H0 H1 locs → W p l e R s m args below meth c H1 locs (cells + 1) (slots + N) Q (F0 m (pc + 2) ls (.ref (Bm + v) :: rest))) : W p l e R s m args below meth c H locs cells slots Q (F0 m pc ls (.int n :: rest)) := by
  obtain ⟨hx, hb, -, -, hown, hts, hK, -⟩ := C
  obtain ⟨⟨h1, h2⟩, hty⟩ := h0
  subst hN
  refine W.newa hx hb (hts _ harr) rfl hdg rfl hn hby hce hsl (fun cA kA comp q1 q2 q3 => ?_)
  have hRA := (hK.2.1 kd h1 (by omega)).2
  rw [← hty] at hRA
  have ec : cA = G.2 kd := by
    have h9 : s.vm.findClass ("[" ++ (newarray.typeOf atype).toString) = some (G.2 kd) := by
      cases atype <;> exact hRA
    exact Option.some.inj (q1.symm.trans h9)
  have hsz := hH.2.1
  have eA : H.size = Bm + (S.1 + 1) := by omega
  have hz := hH.2.2 (S.1 + 1) (by omega)
  have hN : (rs_add S kd n.toNatClampNeg).2.1 (S.1 + 1) = kd := by simp [rs_add]
  have hN2 : (rs_add S kd n.toNatClampNeg).2.2 (S.1 + 1) = n.toNatClampNeg := by simp [rs_add]
  rw [arrV_new, ec]
  have hcel : rs_cell G Bm (rs_add S kd n.toNatClampNeg) σ (H.push (arrV (G.2 kd) n.toNatClampNeg (fun _ => defaultValue (newarray.typeOf atype)))) (S.1 + 1) := by
    refine ⟨fun _ b => by rw [hN] at b; omega, fun _ _ => ?_⟩
    rw [hN, hN2, ← eA]
    have e : (fun _ => defaultValue (newarray.typeOf atype)) = rs_av Bm σ (S.1 + 1) kd := by
      funext j
      rw [hty]
      rcases (by omega : kd = 20 ∨ kd = 21 ∨ kd = 22 ∨ kd = 23) with rfl | rfl | rfl | rfl
      · show Value.int 0 = _; simp [rs_av, (hz j).1]
      · show Value.int 0 = _; simp [rs_av, (hz j).1]
      · show Value.long 0 = _; simp [rs_av, (hz j).2.1]
      · show Value.double 0 = _; simp [rs_av, (hz j).2.2.1]
    rw [e]
    simp
  have k2 := kk (rs_add S kd n.toNatClampNeg) (S.1 + 1) _ rfl rfl rs_Ok_new (rs_grow hH hcel) ⟨by simp; have := hS.1; omega, fun q g1 g2 => by
    have hlt : q < H.size := by have := hS.1; omega
    simp [Array.getElem?_push, Nat.ne_of_lt hlt]
    exact hS.2.1 q g1 g2, hS.2.2⟩
  rw [← eA] at k2
  exact k2
theorem rs_newq (C : rs_C own cc nL ret G p s m meth c args) (hO : rs_O s) (hH : rs_HZ G Bm S σ H) (hS : va_S (rs_A Bm) H0 H locs) {kd N index : Nat} {Cn : String} {n : Int32} (h0 : (kd = 24 ∧ Cn = "RouteSpeaker$Peer") ∨ (kd = 25 ∧ Cn = "RouteSpeaker$Route")) (hcl : Cond.classLink own index Cn ∈ rs_W)
    (hn : ¬ n < 0) (hN : n.toNatClampNeg = N) (hby : N * 4 ≤ 536870912) (hce : cells + 1 ≤ R.cells) (hsl : slots + N ≤ R.slots) (hdg : decode cc pc = .ok (.anewarray index, 3))
    (kk : ∀ (S1 : rs_Shp) (v : Nat) (H1 : Heap), S1 = rs_add S kd N → v = S.1 + 1 → rs_Ok S1 kd v → rs_HZ G Bm S1 σ H1 → va_S (rs_A Bm) H0 H1 locs → W p l e R s m args below meth c H1 locs (cells + 1) (slots + N) Q (F0 m (pc + 3) ls (.ref (Bm + v) :: rest))) : W p l e R s m args below meth c H locs cells slots Q (F0 m pc ls (.int n :: rest)) := by
  obtain ⟨hx, hb, -, -, hown, hts, hK, -⟩ := C
  subst hN
  have hov : (Cond.arrayOver (.object Cn)).before args s = true := by
    rcases h0 with ⟨-, rfl⟩ | ⟨-, rfl⟩
    · exact hO.1.use
    · exact hO.2.1.use
  have hk2 : (24 ≤ kd ∧ kd ≤ 25) ∧ rs_et kd = .object Cn := by
    rcases h0 with ⟨rfl, rfl⟩ | ⟨rfl, rfl⟩ <;> exact ⟨by omega, rfl⟩
  refine W.anew hx hb hown (hts _ hcl) hov rfl hdg rfl hn hby hce hsl (fun cA kA comp q1 q2 q3 q4 => ?_)
  have hRA := (hK.2.1 kd (by omega) (by omega)).2
  rw [hk2.2] at hRA
  obtain ⟨kA', comp', -, -, -, r4⟩ := hRA
  have ec : cA = G.2 kd := Option.some.inj (q1.symm.trans r4)
  have hsz := hH.2.1
  have eA : H.size = Bm + (S.1 + 1) := by omega
  have hz := hH.2.2 (S.1 + 1) (by omega)
  have hN : (rs_add S kd n.toNatClampNeg).2.1 (S.1 + 1) = kd := by simp [rs_add]
  have hN2 : (rs_add S kd n.toNatClampNeg).2.2 (S.1 + 1) = n.toNatClampNeg := by simp [rs_add]
  rw [arrV_new, ec]
  have hcel : rs_cell G Bm (rs_add S kd n.toNatClampNeg) σ (H.push (arrV (G.2 kd) n.toNatClampNeg (fun _ => .null))) (S.1 + 1) := by
    refine ⟨fun _ b => by rw [hN] at b; omega, fun _ _ => ?_⟩
    rw [hN, hN2, ← eA]
    have e : (fun _ => Value.null) = rs_av Bm σ (S.1 + 1) kd := by
      funext j
      unfold rs_av
      rw [if_neg (by omega), if_neg (by omega), if_neg (by omega), (hz j).2.2.2]
      rfl
    rw [e]
    simp
  have k2 := kk (rs_add S kd n.toNatClampNeg) (S.1 + 1) _ rfl rfl rs_Ok_new (rs_grow hH hcel) ⟨by simp; have := hS.1; omega, fun q g1 g2 => by
    have hlt : q < H.size := by have := hS.1; omega
    simp [Array.getElem?_push, Nat.ne_of_lt hlt]
    exact hS.2.1 q g1 g2, hS.2.2⟩
  rw [← eA] at k2
  exact k2
/-- writes of one cell, in a world that may grow -/
theorem rs_HZ.put {σ' : rs_Mem} {H1 : Heap} {v : Nat} (hH : rs_HZ G Bm S σ H) (hv : v ≤ S.1) (ho : rs_off σ σ' v) (hz : H1.size = H.size) (hq : ∀ q : Nat, q ≠ Bm + v → H1[q]? = H[q]?) (hc : rs_cell G Bm S σ' H1 v) : rs_HZ G Bm S σ' H1 :=
  ⟨hH.1.put ho hz hq hc, by rw [hz]; exact hH.2.1, fun u hu k => by
    have h := ho u (by omega) k
    have h2 := hH.2.2 u hu k
    exact ⟨h.1.trans h2.1, h.2.1.trans h2.2.1, h.2.2.1.trans h2.2.2.1, h.2.2.2.trans h2.2.2.2⟩⟩
theorem rs_putZ (C : rs_C own cc nL ret G p s m meth c args) (hH : rs_HZ G Bm S σ H) (hS : va_S (rs_A Bm) H0 H locs) {kd v k index : Nat} {w : Value} {σ' : rs_Mem} (hv : rs_Ok S kd v) (h1 : 1 ≤ kd) (h2 : kd ≤ 11) (hk : k < rs_nf kd) (hfin : (rs_ft kd k).2.2.2 = false ∨ ((rs_ft kd k).2.2.2 = true ∧ meth.name = "<init>" ∧ own = rs_cn kd))
    (hn : narrow (rs_ty kd k) w = w) (hfit : fits (rs_ty kd k) w = true) (ho : rs_off σ σ' v) (hw : ∀ j, j < rs_nf kd → updV (rs_fv Bm σ v kd) k w j = rs_fv Bm σ' v kd j)
    (hlink : Cond.fieldLink own index (rs_cn kd) (rs_ft kd k).2.1 (rs_ft kd k).2.2.1 ∈ rs_W) (hdg : decode cc pc = .ok (.putfield index, 3))
    (kk : ∀ (H1 : Heap) (locs1 : List Loc), rs_HZ G Bm S σ' H1 → va_S (rs_A Bm) H0 H1 locs1 → W p l e R s m args below meth c H1 locs1 cells slots Q (F0 m (pc + 3) ls rest)) : W p l e R s m args below meth c H locs cells slots Q (F0 m pc ls (w :: .ref (Bm + v) :: rest)) := by
  obtain ⟨hx, hb, -, -, hown, hts, hK, -⟩ := C
  obtain ⟨cell, q1, q2, q3, q4⟩ := rs_obj hH.1 hv h1 h2
  obtain ⟨cC, kC, cf, fi, kf, f, hfc, hcC, hkC, hkind, hi, hst, hsl⟩ := rs_fld hts hK h1 h2 hk
  have hlay := hts _ (rs_lays kd h1 h2 _ (u_in_lay hk))
  unfold u_lay at hlay
  have hvp : rs_A Bm (Bm + v) := by show Bm < Bm + v; have := hv.1; omega
  rcases hfin with hfin | ⟨hfin, hin, ho2⟩
  · rw [if_neg (by rw [hfin]; decide), rs_own kd (by omega) k hk] at hlay
    have h6 := u_store hfc hkC hkind hlay hi (rs_pd kd (by omega) k hk) hn hfit
    refine W.putK hx hb (f := f) ⟨hown, hts _ hlink, ⟨_, _, _, hi⟩, hst⟩ (by rw [q2, ← hcC]; exact h6) q1 q3 (by rw [hsl]; exact k2_hasslot (q4 k hk)) rfl rfl hdg fun H' e1 e2 e3 => ?_
    rw [hsl] at e1 ⊢
    exact kk H' _ (hH.put hv.2.1 ho e2 e3 (rs_cell_fld hv h2 q2 q3 q4 (rs_apart hts hK h1 h2) hk e1 hw)) (hS.put e2 e3 hvp)
  · rw [if_pos hfin, rs_own kd (by omega) k hk] at hlay
    have hcf : m.cls = cf := by
      obtain ⟨_, _, c', _, _, _, -, -, hf', -, -, -, hown2, -⟩ := Cond.laysFinal_spec hlay
      have e1 : c' = cf := by have := hi.symm.trans hf'; simp at this; exact this.1.symm
      rw [← ho2] at hown2
      rw [← e1]; exact Option.some.inj (hown.symm.trans hown2)
    have h6 := u_fits hfc hkC hkind (Or.inr hlay) hi (rs_pd kd (by omega) k hk) hn hfit
    refine W.putFinK hx hb hown (hts _ hlink) hi hst hcf hin (by rw [q2, ← hcC]; exact h6) q1 q3 (by rw [hsl]; exact k2_hasslot (q4 k hk)) rfl rfl hdg fun H' e1 e2 e3 => ?_
    rw [hsl] at e1 ⊢
    exact kk H' _ (hH.put hv.2.1 ho e2 e3 (rs_cell_fld hv h2 q2 q3 q4 (rs_apart hts hK h1 h2) hk e1 hw)) (hS.put e2 e3 hvp)
theorem rs_putIZ (C : rs_C own cc nL ret G p s m meth c args) (hH : rs_HZ G Bm S σ H) (hS : va_S (rs_A Bm) H0 H locs) {kd v k index : Nat} {x : Int32} (hv : rs_Ok S kd v) (h0 : (1 ≤ kd ∧ kd ≤ 11) ∧ k < rs_nf kd ∧ rs_rf kd k = 0) (hfin : (rs_ft kd k).2.2.2 = false)
    (hlink : Cond.fieldLink own index (rs_cn kd) (rs_ft kd k).2.1 (rs_ft kd k).2.2.1 ∈ rs_W) (hdg : decode cc pc = .ok (.putfield index, 3))
    (kk : ∀ (σ1 : rs_Mem) (H1 : Heap) (locs1 : List Loc), σ1 = rs_sI σ v k x → rs_HZ G Bm S σ1 H1 → va_S (rs_A Bm) H0 H1 locs1 → W p l e R s m args below meth c H1 locs1 cells slots Q (F0 m (pc + 3) ls rest)) : W p l e R s m args below meth c H locs cells slots Q (F0 m pc ls (.int x :: .ref (Bm + v) :: rest)) := by
  have ht := rs_kty kd (by omega) k h0.2.1 h0.2.2
  exact rs_putZ C hH hS hv h0.1.1 h0.1.2 h0.2.1 (Or.inl hfin) (by rw [ht]; rfl) (by rw [ht]; rfl) rs_off_I (fun j _ => rs_fvI h0.2.2 j) hlink hdg fun H1 locs1 g1 g2 => kk _ H1 locs1 rfl g1 g2
theorem rs_putRZ (C : rs_C own cc nL ret G p s m meth c args) (hi2 : meth.name = "<init>" ∧ rs_O s) (hH : rs_HZ G Bm S σ H) (hS : va_S (rs_A Bm) H0 H locs) {kd v k kr index : Nat} {x : Nat} (hv : rs_Ok S kd v) (h0 : (1 ≤ kd ∧ kd ≤ 11) ∧ k < rs_nf kd ∧ rs_rf kd k = kr ∧ kr ≠ 0) (hfin : (rs_ft kd k).2.2.2 = true) (ho : own = rs_cn kd)
    (hn : narrow (rs_ty kd k) (.ref (Bm + x)) = .ref (Bm + x)) (hfit : fits (rs_ty kd k) (.ref (Bm + x)) = true) (hr : rs_Ok S kr x)
    (hlink : Cond.fieldLink own index (rs_cn kd) (rs_ft kd k).2.1 (rs_ft kd k).2.2.1 ∈ rs_W) (hdg : decode cc pc = .ok (.putfield index, 3))
    (kk : ∀ (σ1 : rs_Mem) (H1 : Heap) (locs1 : List Loc), σ1 = rs_sR σ v k x → rs_HZ G Bm S σ1 H1 → va_S (rs_A Bm) H0 H1 locs1 → W p l e R s m args below meth c H1 locs1 cells slots Q (F0 m (pc + 3) ls rest)) : W p l e R s m args below meth c H locs cells slots Q (F0 m pc ls (.ref (Bm + x) :: .ref (Bm + v) :: rest)) := by
  obtain ⟨⟨a1, a2⟩, a3, a4, a5⟩ := h0
  have hx0 : x ≠ 0 := by have := hr.1; omega
  exact rs_putZ C hH hS hv a1 a2 a3 (Or.inr ⟨hfin, hi2.1, ho⟩) hn hfit rs_off_R (fun j _ => rs_fvR (by rw [a4]; exact a5) hx0 j) hlink hdg fun H1 locs1 g1 g2 => kk _ H1 locs1 rfl g1 g2
theorem rs_getRZ (C : rs_C own cc nL ret G p s m meth c args) (hH : rs_HZ G Bm S σ H) {kd v k kr index : Nat} (hv : rs_Ok S kd v) (h0 : (1 ≤ kd ∧ kd ≤ 11) ∧ k < rs_nf kd ∧ rs_rf kd k = kr ∧ kr ≠ 0) (ok : rs_Ok S kr (rs_R σ v k))
    (hlink : Cond.fieldLink own index (rs_cn kd) (rs_ft kd k).2.1 (rs_ft kd k).2.2.1 ∈ rs_W) (hdg : decode cc pc = .ok (.getfield index, 3))
    (kk : W p l e R s m args below meth c H locs cells slots Q (F0 m (pc + 3) ls (.ref (Bm + rs_R σ v k) :: rest))) : W p l e R s m args below meth c H locs cells slots Q (F0 m pc ls (.ref (Bm + v) :: rest)) := by
  refine rs_get C hH.1 hv h0.1.1 h0.1.2 h0.2.1 hlink hdg ?_
  obtain ⟨⟨a1, a2⟩, a3, rfl, a5⟩ := h0
  have e : rs_fv Bm σ v kd k = .ref (Bm + rs_R σ v k) := by unfold rs_fv; rw [if_neg a5]; exact rs_rv_ok ok
  rw [e]; exact kk
theorem rs_iastZ (C : rs_C own cc nL ret G p s m meth c args) (hH : rs_HZ G Bm S σ H) (hS : va_S (rs_A Bm) H0 H locs) {v : Nat} {x : Int32} (hv : rs_Ok S 20 v) {i : Int32} (hin : vp_in i (S.2.2 v)) (hdg : decode cc pc = .ok (.iastore, 1))
    (kk : ∀ (σ1 : rs_Mem) (H1 : Heap) (locs1 : List Loc), σ1 = rs_sI σ v i.toNatClampNeg x → rs_HZ G Bm S σ1 H1 → va_S (rs_A Bm) H0 H1 locs1 → W p l e R s m args below meth c H1 locs1 cells slots Q (F0 m (pc + 1) ls rest)) : W p l e R s m args below meth c H locs cells slots Q (F0 m pc ls (.int x :: .int i :: .ref (Bm + v) :: rest)) := by
  obtain ⟨hx, hb, -, -, -, -, hK, -⟩ := C
  refine W.iast hx hb (rs_arr hH.1 hv (by omega) (by omega)) ((hK.2.1 20 (by omega) (by omega)).1 _ _) (fun q => by cases q) (by rw [arrV_size]; exact hin) rfl rfl hdg fun H1 e1 z oq => ?_
  refine kk _ H1 _ rfl (hH.put hv.2.1 rs_off_I z oq (rs_cell_arr hv (by omega) e1 fun j => ?_)) (hS.put z oq (by show Bm < Bm + v; have := hv.1; omega))
  by_cases hj : j = i.toNatClampNeg
  · subst hj; simp [updV, rs_av, rs_I, rs_sI, rs_up]
  · simp [updV, rs_av, rs_I, rs_sI, rs_up, hj]
theorem rs_aastZ (C : rs_C own cc nL ret G p s m meth c args) (hH : rs_HZ G Bm S σ H) (hS : va_S (rs_A Bm) H0 H locs) {kd kr v x : Nat} (h0 : (kd = 24 ∧ kr = 6) ∨ (kd = 25 ∧ kr = 8)) (hv : rs_Ok S kd v) (hr : rs_Ok S kr x) {i : Int32} (hin : vp_in i (S.2.2 v)) (hdg : decode cc pc = .ok (.aastore, 1))
    (hcast : ∃ kc : Class, s.vm.classes[G.1.1 kr]? = some kc ∧ s.vm.assignable (G.1.1 kr) (G.1.1 kr) = true)
    (kk : ∀ (σ1 : rs_Mem) (H1 : Heap) (locs1 : List Loc), σ1 = rs_sR σ v i.toNatClampNeg x → rs_HZ G Bm S σ1 H1 → va_S (rs_A Bm) H0 H1 locs1 → W p l e R s m args below meth c H1 locs1 cells slots Q (F0 m (pc + 1) ls rest)) : W p l e R s m args below meth c H locs cells slots Q (F0 m pc ls (.ref (Bm + x) :: .int i :: .ref (Bm + v) :: rest)) := by
  obtain ⟨hx, hb, -, -, -, -, hK, -⟩ := C
  have hk1 : (24 ≤ kd ∧ kd ≤ 25) ∧ rs_et kd = .object (rs_cn kr) ∧ 1 ≤ kr ∧ kr ≤ 11 := by
    rcases h0 with ⟨rfl, rfl⟩ | ⟨rfl, rfl⟩ <;> exact ⟨by omega, rfl, by omega, by omega⟩
  obtain ⟨ce, q1, q2, q3, -⟩ := rs_obj hH.1 hr hk1.2.2.1 hk1.2.2.2
  have hRA := (hK.2.1 kd (by omega) (by omega)).2
  rw [hk1.2.1] at hRA
  obtain ⟨kA, comp, r1, r2, r3, r4⟩ := hRA
  have hfc := (hK.1.1 kr _ (rs_cl_at hk1.2.2.2)).2.1
  have ecomp : comp = G.1.1 kr := Option.some.inj (r3.symm.trans hfc)
  obtain ⟨kc, hkc, has⟩ := hcast
  have hn0 : ¬ i < 0 := fun q => hin (Or.inl q)
  have hlt : i.toNatClampNeg < S.2.2 v := Nat.not_le.mp fun q => hin (Or.inr q)
  have hx0 : x ≠ 0 := by have := hr.1; omega
  refine W.aast hx hb (rs_arr hH.1 hv (by omega) (by omega)) (fun q h => by cases h) (fun q => by cases q) r1 r2 rfl (by rw [ecomp]; exact hkc) ⟨hn0, by rw [arrV_size]; exact hlt⟩ q1 (fun q h => by rw [q3] at h; cases h) (by rw [q2]; exact hkc) (by rw [q2, ecomp]; exact has) rfl rfl hdg fun H1 e1 z oq => ?_
  refine kk _ H1 _ rfl (hH.put hv.2.1 rs_off_R z oq (rs_cell_arr hv (by omega) e1 fun j => ?_)) (hS.put z oq (by show Bm < Bm + v; have := hv.1; omega))
  have hav : ∀ (τ : rs_Mem) (u q : Nat), rs_av Bm τ u kd q = rs_rv Bm (rs_R τ u q) := fun τ u q => by
    have h9 := hk1.1
    unfold rs_av
    rw [if_neg (by omega), if_neg (by omega), if_neg (by omega)]
  unfold updV
  rw [hav, hav]
  by_cases hj : j = i.toNatClampNeg
  · subst hj; simp [rs_R, rs_sR, rs_up, rs_rv, hx0]
  · rw [if_neg hj]; simp [rs_R, rs_sR, rs_up, hj]
theorem rs_vretZ {Q' : rs_Shp → rs_Mem → Prop} {mc ms : Nat} (C : rs_C own cc nL none G p s m meth c args) (hH : rs_HZ G Bm S σ H) (hS : va_S (rs_A Bm) s.heap H locs) (hF : Q' S σ) (h1 : cells ≤ mc) (h2 : slots ≤ ms) (hdg : decode cc pc = .ok (.return_, 1)) :
    W p l e R s m args below meth c H locs cells slots (MQ below (rs_QZ G Bm Q') args s mc ms (rs_A Bm)) (F0 m pc ls []) := by
  obtain ⟨hx, hb, -, hr, -, -, hK, hlk⟩ := C
  refine W.widen (k := mc) (n := ms) h1 h2 ?_
  exact W.vret hx hb hr (fun t ht hW => ⟨⟨(S, σ), rfl, hF, by show rs_HZ G Bm S σ t.heap; rw [ht]; exact hH⟩, hS.F ht⟩) hS.2.2 hdg hlk
theorem rs_runIZ {y : MethodName} {bytes : ByteArray} {maxL n index v mc ms : Nat} {rm : Room} {As : List Value} {Qc : Array Value → State → Outcome → State → Prop} {lv : List (Nat × Value)}
    (C : rs_C own cc nL ret G p s m meth c args) (hO : rs_O s) (hH : rs_HZ G Bm S σ H) (hl : lv_has ls nL lv) (hM : Met l y (rs_ws y bytes maxL none) rm (rs_PZ G Bm S σ (.ref (Bm + v) :: As)) Qc mc ms (rs_A Bm)) (hc : rs_Cal y bytes maxL none n) (hy1 : y.name = "<init>")
    (hlink : Cond.methodLink own index y ∈ rs_W) (hinst : Cond.instanceMethod y ∈ rs_W) (hn : As.length = n)
    (hR : (rm.cells = mc ∧ rm.slots = ms) ∧ (rm.frames + 1 ≤ R.frames ∧ 8 + (maxL + 11) + rm.locals ≤ R.locals) ∧ cells + mc ≤ R.cells ∧ slots + ms ≤ R.slots) (hW : (rest.map fun v => v.category).sum ≤ 8) (hst : st0 = As.reverse ++ .ref (Bm + v) :: rest) (hdg : decode cc pc = .ok (.invokespecial index, 3)) :
    va_Run p l e R s m args below meth c H locs cells slots mc ms (F0 m pc ls st0) rest (Qc (Value.ref (Bm + v) :: As).toArray) (rs_A Bm) := by
  obtain ⟨hx, hb, hml, -, hown, hts, hK, -⟩ := C
  refine va_runI ⟨hx, hb, hml, hown, hts⟩ hM ⟨callB_of n hts (rs_good hc.1) rfl hR.1.1 hR.1.2 (hts _ hc.2.1) (hts _ hlink) hc.2.2 hR.2.1, hy1, hts _ hinst⟩ ⟨rs_blindZ, fun U hU hWm => ⟨rfl, by rw [hU]; exact hH, hK.moved hWm, hO.moved hWm.alike⟩⟩ rfl hn hl.1 hst (lv_room (rest := st0) hW) hdg hR.2.2
theorem rs_cvZ {Q' : rs_Shp → rs_Mem → Prop} {a : Array Value} {mc ms : Nat} (hr : va_Run p l e R s m args below meth c H locs cells slots mc ms (F0 m pc ls st0) rest (rs_QZ G Bm Q' a) (rs_A Bm)) (hS : va_S (rs_A Bm) H0 H locs)
    (kk : ∀ (S1 : rs_Shp) (σ1 : rs_Mem) (H1 : Heap) (locs1 : List Loc), rs_HZ G Bm S1 σ1 H1 → va_S (rs_A Bm) H0 H1 locs1 → Q' S1 σ1 → W p l e R s m args below meth c H1 locs1 (cells + mc) (slots + ms) Q (F0 m (pc + 3) ls rest)) : W p l e R s m args below meth c H locs cells slots Q (F0 m pc ls st0) :=
  va_callv hr hS (fun _ _ h => h) (fun _ h => h) fun u t H1 locs1 ht _ hp hB _ _ hS1 => kk u.1 u.2 H1 locs1 (by rw [← ht]; exact hB) hS1 hp
end RCZ
