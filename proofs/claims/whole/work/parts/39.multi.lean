/-! new int[n][k] -/
def rs_addm (S : rs_Shp) (N K : Nat) : rs_Shp := (S.1 + 1 + N, fun v => if v = S.1 + 1 then 26 else if S.1 + 1 < v ∧ v ≤ S.1 + 1 + N then 20 else S.2.1 v, fun v => if v = S.1 + 1 then N else if S.1 + 1 < v ∧ v ≤ S.1 + 1 + N then K else S.2.2 v)
def rs_mul (σ : rs_Mem) (a N : Nat) : rs_Mem := (σ.1, σ.2.1, σ.2.2.1, fun u j => if u = a ∧ j < N then a + 1 + j else σ.2.2.2 u j)
theorem rs_outer (c : ClassId) (N h0 : Nat) : ∀ i : Nat, Jvm.Free.Multi.outerC c N h0 i = arrV c N (fun j => if j < i then .ref (h0 + 1 + j) else .null)
  | 0 => by
    show ({ cls := c, slots := Array.replicate N .null, vm := .none } : Cell) = _
    rw [arrV_new]
    exact congrArg (arrV c N) (funext fun j => by simp)
  | i + 1 => by
    show (Jvm.Free.Multi.outerC c N h0 i).setSlot i (.ref (h0 + 1 + i)) = _
    rw [rs_outer c N h0 i, arrV_store]
    refine congrArg (arrV c N) (funext fun j => ?_)
    unfold updV
    by_cases e : j = i
    · subst e; simp
    · rw [if_neg e]
      dsimp only
      by_cases h : j < i
      · rw [if_pos h, if_pos (by omega)]
      · rw [if_neg h, if_neg (by omega)]
theorem rs_newm {p : Program} {l : Launch} {e : Env} {R : Room} {s : State} {m : MethodId} {args : Array Value} {below : List Frame} {meth : Method} {c : Code} {H : Heap} {locs : List Loc} {cells slots : Nat} {Q : State → Prop} {cc : ByteArray} {pc : Nat} {ls : Array Slot} {rest : List Value} {G : rs_G} {Bm : Nat} {S : rs_Shp} {σ : rs_Mem} {own : String} {nL : Nat} {ret : Option FieldType} {H0 : Heap}
    (C : rs_C own cc nL ret G p s m meth c args) (hO : rs_O s) (hH : rs_HZ G Bm S σ H) (hS : va_S (rs_A Bm) H0 H locs) {index N K : Nat} {n k : Int32} (hcl : Cond.classLink own index "[[I" ∈ rs_W) (harr : Cond.arrayClass .int ∈ rs_W)
    (hn : ¬ n < 0) (hk : ¬ k < 0) (hN : n.toNatClampNeg = N) (hM : k.toNatClampNeg = K) (hb1 : N * 4 ≤ 536870912) (hb2 : K * componentBytes .int ≤ 536870912) (hb3 : K ≤ 536870912) (hce : cells + (1 + N) ≤ R.cells) (hsl : slots + (N + N * K) ≤ R.slots) (hdg : decode cc pc = .ok (.multianewarray index 2, 4))
    (kk : ∀ (S1 : rs_Shp) (σ1 : rs_Mem) (v : Nat) (H1 : Heap), S1 = rs_addm S N K → σ1 = rs_mul σ (S.1 + 1) N → v = S.1 + 1 → rs_Ok S1 26 v → rs_HZ G Bm S1 σ1 H1 → va_S (rs_A Bm) H0 H1 locs → W p l e R s m args below meth c H1 locs (cells + 1 + N) (slots + N + N * K) Q (F0 m (pc + 4) ls (.ref (Bm + v) :: rest))) : W p l e R s m args below meth c H locs cells slots Q (F0 m pc ls (.int k :: .int n :: rest)) := by
  obtain ⟨hx, hb, -, -, hown, hts, hK, -⟩ := C
  subst hN
  subst hM
  intro T hT' X
  obtain ⟨vm₁, cA, comp, -, fA, fC, -, -, X', step⟩ := X.multianewarray2F hx hown (ty := .int) (hts _ hcl) hO.2.2 (hts _ harr) (g := F0 m pc ls (.int k :: .int n :: rest)) rfl (by rw [hb]; exact hdg) rfl hn hk hb1 hb2 hb3 rfl rfl hce hsl
  have eA : cA = G.2 26 := Option.some.inj (fA.symm.trans (hK.2.1 26 (by omega) (by omega)).2)
  have eC : comp = G.2 20 := Option.some.inj (fC.symm.trans (hK.2.1 20 (by omega) (by omega)).2)
  subst eA
  subst eC
  generalize hF : Jvm.Free.Multi.fill (T.setVm vm₁) (G.2 26) (G.2 20) n.toNatClampNeg k.toNatClampNeg (defaultValue .int) n.toNatClampNeg = F at X' step
  have hTh : (T.setVm vm₁).heap = H := hT'
  obtain ⟨f1, f2, -, -⟩ := Jvm.Free.Multi.fill_facts (T.setVm vm₁) (G.2 26) (G.2 20) n.toNatClampNeg k.toNatClampNeg (defaultValue .int) n.toNatClampNeg
  rw [hF, hTh] at f1 f2
  have hold : ∀ x : Nat, x < H.size → F.heap[x]? = H[x]? := fun x hx => by
    have := Jvm.Free.Multi.fill_old (T.setVm vm₁) (G.2 26) (G.2 20) n.toNatClampNeg k.toNatClampNeg (defaultValue .int) (a := x) (by rw [hTh]; exact hx) n.toNatClampNeg
    rw [hF, hTh] at this
    exact this
  have hrow : ∀ j : Nat, j < n.toNatClampNeg → F.heap[H.size + 1 + j]? = some (arrV (G.2 20) k.toNatClampNeg (fun _ => .int 0)) := fun j hj => by
    have := Jvm.Free.Multi.fill_inner (T.setVm vm₁) (G.2 26) (G.2 20) n.toNatClampNeg k.toNatClampNeg (defaultValue .int) n.toNatClampNeg j hj
    rw [hF, hTh] at this
    rw [this, ← arrV_new]
    rfl
  rw [rs_outer] at f2
  have hsz := hH.2.1
  have eB : H.size = Bm + (S.1 + 1) := by omega
  have hz := hH.2.2
  have hRn : ∀ u j, u ≠ S.1 + 1 → rs_R (rs_mul σ (S.1 + 1) n.toNatClampNeg) u j = rs_R σ u j := fun u j hu => by simp [rs_R, rs_mul, hu]
  have hHZ : rs_HZ G Bm (rs_addm S n.toNatClampNeg k.toNatClampNeg) (rs_mul σ (S.1 + 1) n.toNatClampNeg) F.heap := by
    refine ⟨⟨by rw [f1]; simp only [rs_addm]; omega, fun v h0 hv => ?_⟩, by rw [f1]; simp only [rs_addm]; omega, fun v hv j => ?_⟩
    · have hv' : v ≤ S.1 + 1 + n.toNatClampNeg := hv
      by_cases e1 : v = S.1 + 1
      · subst e1
        have k1 : (rs_addm S n.toNatClampNeg k.toNatClampNeg).2.1 (S.1 + 1) = 26 := by simp [rs_addm]
        have k2 : (rs_addm S n.toNatClampNeg k.toNatClampNeg).2.2 (S.1 + 1) = n.toNatClampNeg := by simp [rs_addm]
        refine ⟨fun _ b => by rw [k1] at b; omega, fun _ _ => ?_⟩
        rw [k1, k2, ← eB, f2]
        refine congrArg some (congrArg _ (funext fun j => ?_))
        have hav : ∀ (τ : rs_Mem) (u q : Nat), rs_av Bm τ u 26 q = rs_rv Bm (rs_R τ u q) := fun τ u q => by simp [rs_av]
        rw [hav]
        by_cases hj : j < n.toNatClampNeg
        · rw [if_pos hj]
          have e2 : rs_R (rs_mul σ (S.1 + 1) n.toNatClampNeg) (S.1 + 1) j = S.1 + 1 + 1 + j := by simp [rs_R, rs_mul, hj]
          rw [e2]
          unfold rs_rv
          rw [if_neg (by omega), eB]
          exact congrArg Value.ref (show (Bm + (S.1 + 1) + 1 + j : Nat) = Bm + (S.1 + 1 + 1 + j) by omega)
        · rw [if_neg hj]
          have e2 : rs_R (rs_mul σ (S.1 + 1) n.toNatClampNeg) (S.1 + 1) j = 0 := by
            have := (hz (S.1 + 1) (by omega) j).2.2.2
            simpa [rs_R, rs_mul, hj] using this
          rw [e2]
          rfl
      · by_cases e2 : v ≤ S.1
        · have k1 : (rs_addm S n.toNatClampNeg k.toNatClampNeg).2.1 v = S.2.1 v := by
            have h9 : ¬ (S.1 + 1 < v ∧ v ≤ S.1 + 1 + n.toNatClampNeg) := by omega
            simp only [rs_addm, if_neg e1, if_neg h9]
          have k2 : (rs_addm S n.toNatClampNeg k.toNatClampNeg).2.2 v = S.2.2 v := by
            have h9 : ¬ (S.1 + 1 < v ∧ v ≤ S.1 + 1 + n.toNatClampNeg) := by omega
            simp only [rs_addm, if_neg e1, if_neg h9]
          have h := hH.1.2 v h0 e2
          have hq := hold (Bm + v) (by omega)
          have g1 : ∀ kd, rs_fv Bm (rs_mul σ (S.1 + 1) n.toNatClampNeg) v kd = rs_fv Bm σ v kd := fun kd => by
            funext j; unfold rs_fv; rw [hRn v j e1]; rfl
          have g2 : ∀ kd, rs_av Bm (rs_mul σ (S.1 + 1) n.toNatClampNeg) v kd = rs_av Bm σ v kd := fun kd => by
            funext j; unfold rs_av; rw [hRn v j e1]; rfl
          refine ⟨fun a b => ?_, fun a b => ?_⟩
          · rw [k1] at a b ⊢
            rw [g1]
            exact (h.1 a b).kept hq
          · rw [k1] at a b ⊢
            rw [k2, g2, hq]
            exact h.2 a b
        · have h9 : S.1 + 1 < v ∧ v ≤ S.1 + 1 + n.toNatClampNeg := by omega
          have k1 : (rs_addm S n.toNatClampNeg k.toNatClampNeg).2.1 v = 20 := by simp only [rs_addm, if_neg e1, if_pos h9]
          have k2 : (rs_addm S n.toNatClampNeg k.toNatClampNeg).2.2 v = k.toNatClampNeg := by simp only [rs_addm, if_neg e1, if_pos h9]
          refine ⟨fun _ b => by rw [k1] at b; omega, fun _ _ => ?_⟩
          rw [k1, k2]
          have hr := hrow (v - (S.1 + 2)) (by omega)
          have e3 : H.size + 1 + (v - (S.1 + 2)) = Bm + v := by omega
          rw [e3] at hr
          rw [hr]
          refine congrArg some (congrArg _ (funext fun j => ?_))
          have h8 := (hz v (by omega) j).1
          show Value.int 0 = rs_av Bm _ v 20 j
          simp only [rs_av]
          exact congrArg Value.int h8.symm
    · have hv' : S.1 + 1 + n.toNatClampNeg < v := hv
      have h8 := hz v (by omega) j
      refine ⟨h8.1, h8.2.1, h8.2.2.1, ?_⟩
      rw [hRn v j (by omega)]
      exact h8.2.2.2
  have hOk : rs_Ok (rs_addm S n.toNatClampNeg k.toNatClampNeg) 26 (S.1 + 1) := ⟨by omega, by show S.1 + 1 ≤ S.1 + 1 + n.toNatClampNeg; omega, by simp [rs_addm]⟩
  obtain ⟨t, a1, b1⟩ := kk _ _ (S.1 + 1) F.heap rfl rfl rfl hOk hHZ ⟨by rw [f1]; have := hS.1; omega, fun q g1 g2 => by
    have h5 := hS.1
    rw [hold q (by omega)]
    exact hS.2.1 q g1 g2, hS.2.2⟩ F rfl X'
  refine ⟨t, step t ?_, b1⟩
  have e9 : T.heap.size = Bm + (S.1 + 1) := by rw [hT']; exact eB
  rw [e9]
  exact a1
