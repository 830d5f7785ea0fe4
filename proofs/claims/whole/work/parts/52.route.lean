/-! a route in the class's cells -/
abbrev Rt : Type := Int32 × Int32 × Int32 × Int32 × Int32 × List Int32 × List Int32
def rtO (r : Rt) : Int32 := r.1
def rtN (r : Rt) : Int32 := r.2.1
def rtM (r : Rt) : Int32 := r.2.2.1
def rtP (r : Rt) : Int32 := r.2.2.2.1
def rtS (r : Rt) : Int32 := r.2.2.2.2.1
def rtA (r : Rt) : List Int32 := r.2.2.2.2.2.1
def rtC (r : Rt) : List Int32 := r.2.2.2.2.2.2
theorem rt_ext {r q : Rt} (h1 : rtO r = rtO q) (h2 : rtN r = rtN q) (h3 : rtM r = rtM q) (h4 : rtP r = rtP q) (h5 : rtS r = rtS q) (h6 : rtA r = rtA q) (h7 : rtC r = rtC q) : r = q := by
  obtain ⟨a, b, c, d, e, f, g⟩ := r
  obtain ⟨a', b', c', d', e', f', g'⟩ := q
  simp only [rtO, rtN, rtM, rtP, rtS, rtA, rtC] at h1 h2 h3 h4 h5 h6 h7
  rw [h1, h2, h3, h4, h5, h6, h7]
/-- the cell v is a Route with its path at v+1 and its clusters at v+2 -/
def RS (σ : rs_Mem) (v : Nat) : Prop := rs_R σ v 2 = v + 1 ∧ rs_R σ v 8 = v + 2 ∧ NF (v + 1) = 8 ∧ NF (v + 2) = 6
/-- and holds r -/
def RRt (σ : rs_Mem) (v : Nat) (r : Rt) : Prop :=
  rs_I σ v 0 = rtO r ∧ rs_I σ v 1 = nI (rtA r).length ∧ rs_I σ v 3 = rtN r ∧ rs_I σ v 4 = rtM r ∧ rs_I σ v 5 = rtP r ∧ rs_I σ v 6 = rtS r ∧ rs_I σ v 7 = nI (rtC r).length ∧ Ar σ (v + 1) 0 (rtA r) ∧ Ar σ (v + 2) 0 (rtC r) ∧ (rtA r).length ≤ 8 ∧ (rtC r).length ≤ 6
theorem RS.fr {A : Nat → Prop} {σ τ : rs_Mem} {v : Nat} (h : RS σ v) (f : Fr A σ τ) (hv : ¬ A v) : RS τ v := ⟨(f.R hv 2).trans h.1, (f.R hv 8).trans h.2.1, h.2.2⟩
theorem RRt.fr {A : Nat → Prop} {σ τ : rs_Mem} {v : Nat} {r : Rt} (h : RRt σ v r) (f : Fr A σ τ) (h0 : ¬ A v) (h1 : ¬ A (v + 1)) (h2 : ¬ A (v + 2)) : RRt τ v r := by
  obtain ⟨a, b, c, d, e, g, i, j, k, l, m⟩ := h
  exact ⟨(f.I h0 _).trans a, (f.I h0 _).trans b, (f.I h0 _).trans c, (f.I h0 _).trans d, (f.I h0 _).trans e, (f.I h0 _).trans g, (f.I h0 _).trans i, j.fr f h1, k.fr f h2, l, m⟩
theorem RS_own {σ : rs_Mem} (h : Gr σ) : RS σ 7 := ⟨gr_7_2 h, gr_7_8 h, nf_8, nf_9⟩
theorem RS_up {σ : rs_Mem} (h : Gr σ) : RS σ 11 := ⟨gr_11_2 h, gr_11_8 h, nf_12, nf_13⟩
theorem RS_in {σ : rs_Mem} (h : Gr σ) {p k : Nat} (hp : p < 4) (hk : k < 12) : RS σ (pb p + 14 + 3 * k) := ⟨gp_rp h hp hk, gp_rc h hp hk, np_rp hp hk, np_rc hp hk⟩
section RT
variable {σ : rs_Mem} {v v' : Nat} {r r' : Rt} {Q : Int32 → rs_Mem → Prop}
abbrev rBar (r : Rt) : Prop := rtS r = 7 ∨ 100 ∈ rtA r ∨ 7 ∈ rtC r
theorem P_Ro_isBarred (hS : RS σ v) (h : RRt σ v r) (h1 : rBar r → Q 1 σ) (h0 : ¬ rBar r → Q 0 σ) : F_Ro_isBarred NF v σ Q := by
  obtain ⟨s1, s2, s3, s4⟩ := hS
  obtain ⟨a, b, c, d, e, g, i, j, k, l, m⟩ := h
  unfold F_Ro_isBarred
  rw [s1, g, b]
  refine ⟨fun q => h1 (Or.inl q), fun q => ?_⟩
  refine P_Ro_startHas j (by omega) (by omega) (fun q2 => v_f (by decide) (h1 (Or.inr (Or.inl q2)))) (fun q2 => v_t rfl ?_)
  rw [s2, i]
  exact P_Ro_startHas k (by omega) (by omega) (fun q3 => w_f (by decide) (h1 (Or.inr (Or.inr q3)))) (fun q3 => w_t rfl (h0 (fun q4 => by
    rcases q4 with q4 | q4 | q4
    · exact q q4
    · exact q2 q4
    · exact q3 q4)))
def rFst (r : Rt) : Int32 := (rtA r).headD 0
theorem P_Ro_firstNetwork (hS : RS σ v) (h : RRt σ v r) (k : Q (rFst r) σ) : F_Ro_firstNetwork NF v σ Q := by
  obtain ⟨s1, s2, s3, s4⟩ := hS
  obtain ⟨a, b, -, -, -, -, -, j, -, l, -⟩ := h
  unfold F_Ro_firstNetwork
  rw [s1, b]
  have e0 : (0 : Int32).toNatClampNeg = 0 := by decide
  unfold rFst at k
  cases hl : rtA r with
  | nil => rw [hl] at k; exact w_t (by decide) k
  | cons x t =>
    have hlen : (rtA r).length = t.length + 1 := by rw [hl]; rfl
    have hz : (0 : Int32) = nI 0 := by decide
    rw [← hl]
    refine w_f (fun q => ?_) ⟨by rw [hz]; exact vpn (by omega) (by omega), ?_⟩
    · rw [hz, nIle (by omega) (by omega)] at q; omega
    · rw [e0, j.get0 (by omega)]
      have : (rtA r)[0]'(by omega) = (rtA r).headD 0 := by simp [hl]
      rw [this]; exact k
def rSrc (r : Rt) (id : Int32) : Int32 := if rtS r = 0 then id else rtS r
theorem P_Ro_sourceOr (h : RRt σ v r) {id : Int32} (k : Q (rSrc r id) σ) : F_Ro_sourceOr NF v id σ Q := by
  unfold F_Ro_sourceOr
  rw [h.2.2.2.2.2.1]
  unfold rSrc at k
  exact w_ite (by split <;> rename_i q <;> simpa [q] using k)
theorem P_Ro_itemOf {l : List Int32} {x : Int32} (hA : Ar σ v 0 l) (hn : l.length ≤ NF v) (hb : NF v < 1000) (k : Q (if 0 ≤ x ∧ x < nI l.length then l.getD x.toNatClampNeg 0 else 0) σ) : F_Ro_itemOf NF v (nI l.length) x σ Q := by
  unfold F_Ro_itemOf
  by_cases h : 0 ≤ x ∧ x < nI l.length
  · rw [if_pos h] at k
    obtain ⟨j, hj, rfl⟩ := nI_of (x := x) (by intro q; grind)
    have hjl : j < l.length := by
      have h2 := h.2
      rw [nI_ltI (by omega) (by omega)] at h2; exact h2
    refine w_f (by grind) (w_f (by grind) (w_f (fun q => ?_) ⟨vpn (by omega) (by omega), ?_⟩))
    · rw [nIle (by omega) (by omega)] at q; omega
    · rw [nIc (by omega), hA.get0 hjl]
      rw [nIc (by omega), List.getD_eq_getElem?_getD, List.getElem?_eq_getElem hjl] at k
      exact k
  · rw [if_neg h] at k
    refine ⟨fun _ => k, fun q => ⟨fun _ => k, fun q2 => absurd ⟨by grind, by grind⟩ h⟩⟩
theorem P_Ro_startSame {l l' : List Int32} (hA : Ar σ v 0 l) (hB : Ar σ v' 0 l') (hn : l.length ≤ NF v) (hn' : l'.length ≤ NF v') (he : l.length = l'.length) (hb : NF v < 1000) (hb' : NF v' < 1000) (h1 : l = l' → Q 1 σ) (h0 : l ≠ l' → Q 0 σ) : F_Ro_startSame NF v v' (nI l.length) σ Q := by
  have key : ∀ d i, i + d = l.length → l.take i = l'.take i → L_Ro_startSame_2 NF Q (d + 1) v v' (nI l.length) (nI i) σ := by
    intro d
    induction d with
    | zero =>
      intro i hi ht
      have e : i = l.length := by omega
      subst e
      rw [List.take_length, he, List.take_length] at ht
      exact w_t ((nIle (by omega) (by omega)).mpr (by omega)) (h1 ht)
    | succ d ih =>
      intro i hi ht
      refine w_f (fun h => by have := (nIle (by omega) (by omega)).mp h; omega) ⟨vpn (by omega) (by omega), vpn (by omega) (by omega), ?_⟩
      rw [nIc (by omega), hA.get0 (by omega), hB.get0 (by omega)]
      refine ⟨fun h x' e => ?_, fun h => h0 (fun q => h (by subst q; rfl))⟩
      subst e
      rw [nI_1]
      refine ih (i + 1) (by omega) ?_
      rw [List.take_succ_eq_append_getElem (by omega), List.take_succ_eq_append_getElem (by omega), ht, h]
  exact ⟨_, key l.length 0 (by omega) (by simp)⟩
theorem P_Ro_isSameAs (hS : RS σ v) (h : RRt σ v r) (hS' : RS σ v') (h' : RRt σ v' r') (h1 : r = r' → Q 1 σ) (h0 : r ≠ r' → Q 0 σ) : F_Ro_isSameAs NF v v' σ Q := by
  obtain ⟨s1, s2, s3, s4⟩ := hS
  obtain ⟨t1, t2, t3, t4⟩ := hS'
  obtain ⟨a, b, c, d, e, g, i, j, k, l, m⟩ := h
  obtain ⟨a', b', c', d', e', g', i', j', k', l', m'⟩ := h'
  unfold F_Ro_isSameAs
  simp only [s1, s2, t1, t2, a, b, c, d, e, g, i, a', b', c', d', e', g', i']
  refine ⟨fun q => h0 (fun z => q (by rw [z])), fun q1 => ⟨fun q => h0 (fun z => q (by rw [z])), fun q2 => ⟨fun q => h0 (fun z => q (by rw [z])), fun q3 => ⟨fun q => h0 (fun z => q (by rw [z])), fun q4 => ⟨fun q => h0 (fun z => q (by rw [z])), fun q5 => ⟨fun q => h0 (fun z => q (by rw [z])), fun q6 => ?_⟩⟩⟩⟩⟩⟩
  have q6' := (nIeq (by omega) (by omega)).mp q6
  refine P_Ro_startSame j j' (by omega) (by omega) q6' (by omega) (by omega) (fun z1 => w_f (by decide) ?_) (fun z1 => w_t rfl (h0 (fun z => z1 (by rw [z]))))
  simp only [s2, t2, i, i']
  refine ⟨fun q => h0 (fun z => q (by rw [z])), fun q7 => ?_⟩
  have q7' := (nIeq (by omega) (by omega)).mp q7
  exact P_Ro_startSame k k' (by omega) (by omega) q7' (by omega) (by omega) (fun z2 => w_f (by decide) (h1 (rt_ext q1 q2 q3 q4 q5 z1 z2))) (fun z2 => w_t rfl (h0 (fun z => z2 (by rw [z]))))
end RT
