/-! leaves: numbers, prefixes, lists in arrays -/
abbrev isNum (n : Int32) : Prop := 1 ≤ n ∧ n ≤ 250
abbrev isPfx (l a : Int32) : Prop := 0 ≤ l ∧ l ≤ 8 ∧ 0 ≤ a ∧ a ≤ 255 ∧ (a &&& ((255 : Int32) >>> (l &&& 31))) = 0
abbrev isWi (l a ol oa : Int32) : Prop := ol ≤ l ∧ (a ^^^ oa) ≤ (255 : Int32) >>> (ol &&& 31)
def Ar (σ : rs_Mem) (v off : Nat) (l : List Int32) : Prop := ∀ k (h : k < l.length), rs_I σ v (off + k) = l[k]
theorem P_Sp_isPeer {N : Nat → Nat} {x : Int32} {σ : rs_Mem} {Q : Int32 → rs_Mem → Prop} (h1 : (0 ≤ x ∧ x < 4) → Q 1 σ) (h0 : ¬ (0 ≤ x ∧ x < 4) → Q 0 σ) : F_Sp_isPeer N x σ Q := by
  unfold F_Sp_isPeer; grind
theorem P_Sp_isNumber {N : Nat → Nat} {x : Int32} {σ : rs_Mem} {Q : Int32 → rs_Mem → Prop} (h1 : isNum x → Q 1 σ) (h0 : ¬ isNum x → Q 0 σ) : F_Sp_isNumber N x σ Q := by
  unfold F_Sp_isNumber; grind
theorem P_Sp_isPrefix {N : Nat → Nat} {x y : Int32} {σ : rs_Mem} {Q : Int32 → rs_Mem → Prop} (h1 : isPfx x y → Q 1 σ) (h0 : ¬ isPfx x y → Q 0 σ) : F_Sp_isPrefix N x y σ Q := by
  unfold F_Sp_isPrefix; grind
theorem P_Sp_isWithin {N : Nat → Nat} {x y z u : Int32} {σ : rs_Mem} {Q : Int32 → rs_Mem → Prop} (h1 : isWi x y z u → Q 1 σ) (h0 : ¬ isWi x y z u → Q 0 σ) : F_Sp_isWithin N x y z u σ Q := by
  unfold F_Sp_isWithin; grind
theorem Ar.get {σ : rs_Mem} {v off : Nat} {l : List Int32} (h : Ar σ v off l) {k : Nat} (hk : k < l.length) : rs_I σ v (off + k) = l[k] := h k hk
theorem Ar.get0 {σ : rs_Mem} {v : Nat} {l : List Int32} (h : Ar σ v 0 l) {k : Nat} (hk : k < l.length) : rs_I σ v k = l[k] := by
  have := h k hk; rwa [Nat.zero_add] at this
theorem Ar.fr {A : Nat → Prop} {σ τ : rs_Mem} {v off : Nat} {l : List Int32} (h : Ar σ v off l) (f : Fr A σ τ) (hv : ¬ A v) : Ar τ v off l := fun k hk => (f.I hv _).trans (h k hk)
theorem P_Ro_startHas {N : Nat → Nat} {v : Nat} {l : List Int32} {x : Int32} {σ : rs_Mem} {Q : Int32 → rs_Mem → Prop} (hA : Ar σ v 0 l) (hn : l.length ≤ N v) (hb : N v < 1000) (h1 : x ∈ l → Q 1 σ) (h0 : x ∉ l → Q 0 σ) : F_Ro_startHas N v (nI l.length) x σ Q := by
  have key : ∀ d i, i + d = l.length → x ∉ l.take i → L_Ro_startHas_2 N Q (d + 1) v (nI l.length) x (nI i) σ := by
    intro d
    induction d with
    | zero =>
      intro i hi ht
      have e : i = l.length := by omega
      subst e
      rw [List.take_length] at ht
      exact w_t ((nIle (by omega) (by omega)).mpr (by omega)) (h0 ht)
    | succ d ih =>
      intro i hi ht
      refine w_f (fun h => by have := (nIle (by omega) (by omega)).mp h; omega) ⟨vpn (by omega) (by omega), ?_⟩
      rw [nIc (by omega), hA.get0 (by omega)]
      refine ⟨fun h x' e => ?_, fun h => h1 (by rw [← h]; exact List.getElem_mem _)⟩
      subst e
      rw [nI_1]
      refine ih (i + 1) (by omega) ?_
      rw [List.take_succ_eq_append_getElem (by omega)]
      simp only [List.mem_append, List.mem_singleton, not_or]
      exact ⟨ht, fun q => h q.symm⟩
  exact ⟨_, key l.length 0 (by omega) (by simp)⟩
