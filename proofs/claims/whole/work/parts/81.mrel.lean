/-! the model's cells hold a -/
theorem P_Mo_isPeer {N : Nat → Nat} {x : Int32} {σ : rs_Mem} {Q : Int32 → rs_Mem → Prop} (h1 : okP x → Q 1 σ) (h0 : ¬ okP x → Q 0 σ) : F_Mo_isPeer N x σ Q := by
  unfold F_Mo_isPeer; grind
theorem P_Mo_isNumber {N : Nat → Nat} {x : Int32} {σ : rs_Mem} {Q : Int32 → rs_Mem → Prop} (h1 : isNum x → Q 1 σ) (h0 : ¬ isNum x → Q 0 σ) : F_Mo_isNumber N x σ Q := by
  unfold F_Mo_isNumber; grind
theorem P_Mo_isPrefix {N : Nat → Nat} {x y : Int32} {σ : rs_Mem} {Q : Int32 → rs_Mem → Prop} (h1 : isPfx x y → Q 1 σ) (h0 : ¬ isPfx x y → Q 0 σ) : F_Mo_isPrefix N x y σ Q := by
  have e : F_Mo_maskOf N x σ (fun x52 σ51 => ((¬ ((y &&& x52) = y) → (Q (0 : Int32) σ51)) ∧ ((y &&& x52) = y → (Q (1 : Int32) σ51)))) = ((¬ ((y &&& mk x) = y) → (Q (0 : Int32) σ)) ∧ ((y &&& mk x) = y → (Q (1 : Int32) σ))) := rfl
  unfold F_Mo_isPrefix
  rw [e]
  have hm := mPfx (l := x) (x := y)
  by_cases hp : isPfx x y
  · have k := hm.mpr hp
    have k1 := h1 hp
    exact ⟨fun z => by have := k.1; grind, fun _ => ⟨fun z => by have := k.2.1; grind, fun _ => ⟨fun z => by have := k.2.2.1; grind, fun _ => ⟨fun z => by have := k.2.2.2.1; grind, fun _ => ⟨fun z => absurd k.2.2.2.2 z, fun _ => k1⟩⟩⟩⟩⟩
  · have k0 := h0 hp
    exact ⟨fun _ => k0, fun z1 => ⟨fun _ => k0, fun z2 => ⟨fun _ => k0, fun z3 => ⟨fun _ => k0, fun z4 => ⟨fun _ => k0, fun z5 => absurd (hm.mp ⟨by grind, by grind, by grind, by grind, z5⟩) hp⟩⟩⟩⟩⟩
theorem P_Mo_isWithin {N : Nat → Nat} {l a ol oa : Int32} {σ : rs_Mem} {Q : Int32 → rs_Mem → Prop} (h : isPfx ol oa) (ha : 0 ≤ a) (hb : a ≤ 255) (h1 : isWi l a ol oa → Q 1 σ) (h0 : ¬ isWi l a ol oa → Q 0 σ) : F_Mo_isWithin N l a ol oa σ Q := by
  have e : F_Mo_maskOf N ol σ (fun x52 σ51 => ((¬ ((a &&& x52) = oa) → (Q (0 : Int32) σ51)) ∧ ((a &&& x52) = oa → (Q (1 : Int32) σ51)))) = ((¬ ((a &&& mk ol) = oa) → (Q (0 : Int32) σ)) ∧ ((a &&& mk ol) = oa → (Q (1 : Int32) σ))) := rfl
  unfold F_Mo_isWithin
  rw [e]
  have hw := mWi (l := l) h ha hb
  refine ⟨fun z => h0 (fun y => by have := y.1; grind), fun z => ⟨fun y => h0 (fun w => y (hw.mpr w).2), fun y => h1 (hw.mp ⟨by grind, y⟩)⟩⟩
/-- a route in the model's arrays, at place r; ext: of an external peer -/
def MRt (σ : rs_Mem) (r : Nat) (rt : Rt) (ext : Bool) : Prop :=
  rs_I σ 304 r = rtO rt ∧ rs_I σ 305 r = nI (rtA rt).length ∧ Ar σ 306 (8 * r) (rtA rt) ∧ rs_I σ 307 r = rtN rt ∧ rs_I σ 308 r = rtM rt ∧ rs_I σ 309 r = (if ext = true then 0 else rtP rt) ∧ rs_I σ 310 r = rtS rt ∧ rs_I σ 311 r = nI (rtC rt).length ∧ Ar σ 312 (6 * r) (rtC rt) ∧ (rtA rt).length ≤ 8 ∧ (rtC rt).length ≤ 6
def Lo (μ σ : rs_Mem) : Prop := Fp (fun u j => 281 ≤ u ∧ u < 320 ∧ ¬ (u = 281 ∧ j = 0)) μ σ
def MPx (σ : rs_Mem) (pre : List (Int32 × Int32)) : Prop := rs_I σ 281 21 = nI pre.length ∧ pre.length ≤ 12 ∧ ∀ k (h : k < pre.length), rs_I σ 301 k = pre[k].1 ∧ rs_I σ 302 k = pre[k].2
def MOrg (σ : rs_Mem) (org : Nat → Bool) : Prop := ∀ k, k < 12 → rs_I σ 303 (48 + k) = b2i (org k) ∧ (org k = true → MRt σ (48 + k) ownR false)
def MIn (σ : rs_Mem) (p : Nat) (s : Ps) : Prop := ∀ k, k < 12 → rs_I σ 303 (12 * p + k) = b2i (pInc s k).isSome ∧ (∀ rt, pInc s k = some rt → MRt σ (12 * p + k) rt (decide (pRole s = 0))) ∧ rs_D σ 313 (12 * p + k) = pPen s k ∧ rs_I σ 314 (12 * p + k) = b2i (pDmp s k)
def MTo (σ : rs_Mem) (p : Nat) (tol : Nat → Option (List Int32)) : Prop := ∀ k, k < 12 → (tol k = none → rs_I σ 315 (12 * p + k) = -1) ∧ ∀ t, tol k = some t → rs_I σ 315 (12 * p + k) = nI t.length ∧ Ar σ 316 (40 * (12 * p + k)) t ∧ t.length ≤ 33
def MCf (σ : rs_Mem) (p : Nat) (s : Ps) : Prop := rs_I σ 282 p = pRole s ∧ rs_I σ 283 p = pNet s ∧ rs_I σ 284 p = pSt s ∧ rs_I σ 285 p = pHt s ∧ rs_I σ 286 p = pKt s ∧ rs_I σ 287 p = pHo s ∧ rs_I σ 288 p = pId s ∧ rs_I σ 289 p = pPad s ∧ rs_I σ 290 p = pMl s ∧ rs_I σ 291 p = pMa s
def MRu (σ : rs_Mem) (p : Nat) (l : List Ru) : Prop := rs_I σ 292 p = nI l.length ∧ l.length ≤ 3 ∧ ∀ k (h : k < l.length), rs_I σ 293 (3 * p + k) = l[k].1 ∧ rs_I σ 294 (3 * p + k) = l[k].2.1 ∧ rs_I σ 295 (3 * p + k) = l[k].2.2
def MIb (σ : rs_Mem) (p : Nat) (l : List Int32) : Prop := rs_I σ 297 p = nI l.length ∧ l.length ≤ 60 ∧ Ar σ 296 (60 * p) l
def MOb (σ : rs_Mem) (p : Nat) (l : List Int32) : Prop := rs_I σ 299 p = nI l.length ∧ l.length ≤ 200 ∧ Ar σ 298 (200 * p) l
def MPe (σ : rs_Mem) (p : Nat) (s : Ps) : Prop := MCf σ p s ∧ MRu σ p (pRul s) ∧ MIb σ p (pInb s) ∧ MOb σ p (pOut s) ∧ MIn σ p s ∧ MTo σ p (pTol s)
/-- the model's cells hold a; the others are as in μ -/
def MR (μ σ : rs_Mem) (a : Ab) : Prop := Gr σ ∧ MPx σ (aPre a) ∧ (MOrg σ (aOrg a) ∧ Lo μ σ) ∧ ∀ p, p < 4 → MPe σ p (aPe a p)
section ML
variable {σ : rs_Mem} {pre : List (Int32 × Int32)} {l a : Int32} {Q : Int32 → rs_Mem → Prop}
theorem P_Mo_find (hG : Gr σ) (h : MPx σ pre) (h1 : (l, a) ∈ pre → Q (nI (pre.idxOf (l, a))) σ) (h0 : (l, a) ∉ pre → Q (-1) σ) : F_Mo_find NF 281 l a σ Q := by
  obtain ⟨a1, a2, a3⟩ := h
  have key : ∀ d i, i + d = pre.length → (l, a) ∉ pre.take i → L_Mo_find_2 NF Q (d + 1) 281 l a (nI i) σ := by
    intro d
    induction d with
    | zero =>
      intro i hi ht
      have e : i = pre.length := by omega
      subst e
      rw [List.take_length] at ht
      refine w_t ?_ (h0 ht)
      rw [a1]
      exact (nIle (by omega) (by omega)).mpr (by omega)
    | succ d ih =>
      intro i hi ht
      obtain ⟨c1, c2⟩ := a3 i (by omega)
      have step : pre[i]'(by omega) ≠ (l, a) → L_Mo_find_2 NF Q (d + 1) 281 l a (nI (i + 1)) σ := fun hne => by
        refine ih (i + 1) (by omega) ?_
        rw [List.take_succ_eq_append_getElem (by omega)]
        simp only [List.mem_append, List.mem_singleton, not_or]
        exact ⟨ht, fun q => hne q.symm⟩
      refine w_f (fun h => by rw [a1] at h; have := (nIle (by omega) (by omega)).mp h; omega) ?_
      rw [gr_281_22 hG, gr_281_23 hG, nf_301, nf_302, nIc (by omega), c1, c2]
      refine ⟨vpn (by omega) (by omega), fun h x' e => ?_, fun h => ⟨vpn (by omega) (by omega), fun h2 x' e => ?_, fun h2 => ?_⟩⟩
      · subst e; rw [nI_1]; exact step (fun q => h (by rw [q]))
      · subst e; rw [nI_1]; exact step (fun q => h2 (by rw [q]))
      · have e : pre[i]'(by omega) = (l, a) := Prod.ext h h2
        have := h1 (e ▸ List.getElem_mem _)
        rw [idx_at (by omega) ht e] at this
        exact this
  exact ⟨_, key pre.length 0 (by omega) (by simp)⟩
end ML
