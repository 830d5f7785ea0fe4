/-! an UPDATE in the abstract: m the bytes, n their number -/
def Mg (σ : rs_Mem) (v n : Nat) (m : Nat → Nat) : Prop := ∀ k, k < n → rs_I σ v k = nI (m k) ∧ m k < 256
theorem Mg.fr {A : Nat → Prop} {σ τ : rs_Mem} {v n : Nat} {m : Nat → Nat} (h : Mg σ v n m) (f : Fr A σ τ) (hv : ¬ A v) : Mg τ v n m := fun k hk => ⟨(f.I hv _).trans (h k hk).1, (h k hk).2⟩
def tlv (m : Nat → Nat) : Nat → Nat → Nat → Option (List Nat)
  | 0, _, _ => none
  | f + 1, i, e => if i = e then some [] else if i + 2 + m (i + 1) ≤ e then (tlv m f (i + 2 + m (i + 1)) e).map (fun t => i :: t) else none
abbrev isNm (x : Nat) : Prop := x = 1 ∨ x = 2 ∨ x = 3 ∨ x = 4 ∨ x = 5 ∨ x = 9 ∨ x = 10
abbrev numN (x : Nat) : Prop := 1 ≤ x ∧ x ≤ 250
def badV (m : Nat → Nat) (i : Nat) : Int32 :=
  if m i = 2 ∨ m i = 10 then (if (if m i = 2 then 8 else 6) < m (i + 1) then 5 else if ∀ j, j < m (i + 1) → numN (m (i + 2 + j)) then 0 else 11)
  else if m (i + 1) ≠ 1 then 5
  else if m i = 1 then (if 2 < m (i + 2) then 6 else 0)
  else if m i = 3 then (if ¬ numN (m (i + 2)) ∨ m (i + 2) = 7 then 8 else 0)
  else if m i = 9 then (if ¬ numN (m (i + 2)) then 9 else 0)
  else 0
def attFlt (m : Nat → Nat) (dn : List Nat) (i : Nat) : Int32 := if m i ∈ dn.map m then 1 else if 128 ≤ m i then 0 else if ¬ isNm (m i) then 2 else badV m i
def attF (m : Nat → Nat) : List Nat → List Nat → Int32
  | _, [] => 0
  | dn, i :: t => if attFlt m dn i ≠ 0 then attFlt m dn i else attF m (dn ++ [i]) t
def fnd1 (m : Nat → Nat) (ps : List Nat) (x : Nat) : Option Nat := ps.find? (fun i => m i == x)
def sl (m : Nat → Nat) (s L : Nat) : List Int32 := (List.range L).map (fun j => nI (m (s + j)))
def vlU (m : Nat → Nat) (ps : List Nat) (x : Nat) (d : Int32) : Int32 := match fnd1 m ps x with
  | none => d
  | some i => nI (m (i + 2))
def lsU (m : Nat → Nat) (ps : List Nat) (x : Nat) : List Int32 := match fnd1 m ps x with
  | none => []
  | some i => sl m (i + 2) (m (i + 1))
def rtU (m : Nat → Nat) (ps : List Nat) : Rt := (vlU m ps 1 0, vlU m ps 3 0, vlU m ps 4 (-1), vlU m ps 5 100, vlU m ps 9 0, lsU m ps 2, lsU m ps 10)
def dropR (r : Rt) : Rt := (rtO r, rtN r, rtM r, 100, 0, rtA r, [])
def annF (m : Nat → Nat) (ps : List Nat) (ext : Bool) (net : Int32) : Int32 :=
  if 1 ∉ ps.map m ∨ 2 ∉ ps.map m ∨ 3 ∉ ps.map m ∨ (ext = false ∧ 5 ∉ ps.map m) then 3
  else if ext = true ∧ rFst (rtU m ps) ≠ net then 11 else 0
abbrev pfAt (m : Nat → Nat) (i : Nat) : Prop := isPfx (nI (m i)) (nI (m (i + 1)))
abbrev pfOK (m : Nat → Nat) (b k : Nat) : Prop := ∀ j, j < k → pfAt m (b + 2 * j)
theorem fnd1_app {m : Nat → Nat} {dn : List Nat} {i x : Nat} (h : m i ∉ dn.map m) : fnd1 m (dn ++ [i]) x = if m i = x then some i else fnd1 m dn x := by
  unfold fnd1
  rw [List.find?_append]
  by_cases e : m i = x
  · rw [if_pos e]
    have : dn.find? (fun j => m j == x) = none := by
      rw [List.find?_eq_none]
      intro j hj hj2
      simp only [beq_iff_eq] at hj2
      exact h (List.mem_map.mpr ⟨j, hj, by rw [hj2, e]⟩)
    rw [this]
    simp [e]
  · rw [if_neg e]
    simp [e]
theorem fnd1_none {m : Nat → Nat} {dn : List Nat} {x : Nat} : fnd1 m dn x = none ↔ x ∉ dn.map m := by
  unfold fnd1
  rw [List.find?_eq_none]
  simp only [beq_iff_eq, List.mem_map, not_exists, not_and]
theorem vlU_app {m : Nat → Nat} {dn : List Nat} {i x : Nat} {d : Int32} (h : m i ∉ dn.map m) : vlU m (dn ++ [i]) x d = if m i = x then nI (m (i + 2)) else vlU m dn x d := by
  unfold vlU
  rw [fnd1_app h]
  by_cases e : m i = x
  · rw [if_pos e, if_pos e]
  · rw [if_neg e, if_neg e]
theorem lsU_app {m : Nat → Nat} {dn : List Nat} {i x : Nat} (h : m i ∉ dn.map m) : lsU m (dn ++ [i]) x = if m i = x then sl m (i + 2) (m (i + 1)) else lsU m dn x := by
  unfold lsU
  rw [fnd1_app h]
  by_cases e : m i = x
  · rw [if_pos e, if_pos e]
  · rw [if_neg e, if_neg e]
theorem sl_len {m : Nat → Nat} {s L : Nat} : (sl m s L).length = L := by simp [sl]
theorem sl_get {m : Nat → Nat} {s L k : Nat} (h : k < (sl m s L).length) : (sl m s L)[k] = nI (m (s + k)) := by simp [sl]
theorem isNum_nI {x : Nat} (h : x < 1000) : isNum (nI x) ↔ numN x := by
  have e1 : (1 : Int32) = nI 1 := by decide
  have e2 : (250 : Int32) = nI 250 := by decide
  unfold isNum numN
  rw [e1, e2, nIle (by omega) (by omega), nIle (by omega) (by omega)]
section RTS
variable {σ : rs_Mem} {v : Nat} {r : Rt} {x : Int32}
theorem RRt.sO (h : RRt σ v r) : RRt (rs_sI σ v 0 x) v (x, rtN r, rtM r, rtP r, rtS r, rtA r, rtC r) := by
  obtain ⟨a, b, c, d, e, g, i, j, k, l, m⟩ := h
  have f : Fr (fun u => u = v) σ (rs_sI σ v 0 x) := Fr.sI (A := fun u => u = v) Fr.rf rfl
  exact ⟨I_same, (I_nk (by omega)).trans b, (I_nk (by omega)).trans c, (I_nk (by omega)).trans d, (I_nk (by omega)).trans e, (I_nk (by omega)).trans g, (I_nk (by omega)).trans i, j.fr f (by omega), k.fr f (by omega), l, m⟩
theorem RRt.sN (h : RRt σ v r) : RRt (rs_sI σ v 3 x) v (rtO r, x, rtM r, rtP r, rtS r, rtA r, rtC r) := by
  obtain ⟨a, b, c, d, e, g, i, j, k, l, m⟩ := h
  have f : Fr (fun u => u = v) σ (rs_sI σ v 3 x) := Fr.sI (A := fun u => u = v) Fr.rf rfl
  exact ⟨(I_nk (by omega)).trans a, (I_nk (by omega)).trans b, I_same, (I_nk (by omega)).trans d, (I_nk (by omega)).trans e, (I_nk (by omega)).trans g, (I_nk (by omega)).trans i, j.fr f (by omega), k.fr f (by omega), l, m⟩
theorem RRt.sM (h : RRt σ v r) : RRt (rs_sI σ v 4 x) v (rtO r, rtN r, x, rtP r, rtS r, rtA r, rtC r) := by
  obtain ⟨a, b, c, d, e, g, i, j, k, l, m⟩ := h
  have f : Fr (fun u => u = v) σ (rs_sI σ v 4 x) := Fr.sI (A := fun u => u = v) Fr.rf rfl
  exact ⟨(I_nk (by omega)).trans a, (I_nk (by omega)).trans b, (I_nk (by omega)).trans c, I_same, (I_nk (by omega)).trans e, (I_nk (by omega)).trans g, (I_nk (by omega)).trans i, j.fr f (by omega), k.fr f (by omega), l, m⟩
theorem RRt.sP (h : RRt σ v r) : RRt (rs_sI σ v 5 x) v (rtO r, rtN r, rtM r, x, rtS r, rtA r, rtC r) := by
  obtain ⟨a, b, c, d, e, g, i, j, k, l, m⟩ := h
  have f : Fr (fun u => u = v) σ (rs_sI σ v 5 x) := Fr.sI (A := fun u => u = v) Fr.rf rfl
  exact ⟨(I_nk (by omega)).trans a, (I_nk (by omega)).trans b, (I_nk (by omega)).trans c, (I_nk (by omega)).trans d, I_same, (I_nk (by omega)).trans g, (I_nk (by omega)).trans i, j.fr f (by omega), k.fr f (by omega), l, m⟩
theorem RRt.sS (h : RRt σ v r) : RRt (rs_sI σ v 6 x) v (rtO r, rtN r, rtM r, rtP r, x, rtA r, rtC r) := by
  obtain ⟨a, b, c, d, e, g, i, j, k, l, m⟩ := h
  have f : Fr (fun u => u = v) σ (rs_sI σ v 6 x) := Fr.sI (A := fun u => u = v) Fr.rf rfl
  exact ⟨(I_nk (by omega)).trans a, (I_nk (by omega)).trans b, (I_nk (by omega)).trans c, (I_nk (by omega)).trans d, (I_nk (by omega)).trans e, I_same, (I_nk (by omega)).trans i, j.fr f (by omega), k.fr f (by omega), l, m⟩
theorem RRt.sC0 (h : RRt σ v r) : RRt (rs_sI σ v 7 0) v (rtO r, rtN r, rtM r, rtP r, rtS r, rtA r, []) := by
  obtain ⟨a, b, c, d, e, g, i, j, k, l, m⟩ := h
  have f : Fr (fun u => u = v) σ (rs_sI σ v 7 0) := Fr.sI (A := fun u => u = v) Fr.rf rfl
  exact ⟨(I_nk (by omega)).trans a, (I_nk (by omega)).trans b, (I_nk (by omega)).trans c, (I_nk (by omega)).trans d, (I_nk (by omega)).trans e, (I_nk (by omega)).trans g, I_same, j.fr f (by omega), fun q hq => absurd hq (Nat.not_lt_zero q), l, Nat.zero_le 6⟩
theorem P_Ro_dropInner {Q : rs_Mem → Prop} (h : RRt σ v r) (kk : ∀ τ, RRt τ v (dropR r) → Fr (fun u => u = v) σ τ → (∀ u j, rs_R τ u j = rs_R σ u j) → Q τ) : F_Ro_dropInner NF v σ Q := by
  intro σ1 e1 σ2 e2 σ3 e3
  refine kk σ3 ?_ ?_ (fun u j => by rw [e3, e2, e1]; rfl)
  · rw [e3, e2, e1]; exact h.sP.sS.sC0
  · rw [e3, e2, e1]; exact Fr.sI (A := fun u => u = v) (Fr.sI (A := fun u => u = v) (Fr.sI (A := fun u => u = v) Fr.rf rfl) rfl) rfl
theorem P_Ro_dropInnerF {Q : rs_Mem → Prop} (kk : ∀ τ, Fr (fun u => u = v) σ τ → (∀ u j, rs_R τ u j = rs_R σ u j) → Q τ) : F_Ro_dropInner NF v σ Q := by
  intro σ1 e1 σ2 e2 σ3 e3
  refine kk σ3 ?_ (fun u j => by rw [e3, e2, e1]; rfl)
  rw [e3, e2, e1]; exact Fr.sI (A := fun u => u = v) (Fr.sI (A := fun u => u = v) (Fr.sI (A := fun u => u = v) Fr.rf rfl) rfl) rfl
theorem P_Ro_clear {Q : rs_Mem → Prop} (kk : ∀ τ, RRt τ v (0, 0, -1, 100, 0, [], []) → Fr (fun u => u = v) σ τ → (∀ u j, rs_R τ u j = rs_R σ u j) → Q τ) : F_Ro_clear NF v σ Q := by
  intro σ1 e1 σ2 e2 σ3 e3 σ4 e4 σ5 e5 σ6 e6 σ7 e7
  refine kk σ7 ⟨?_, ?_, ?_, ?_, ?_, ?_, ?_, fun q hq => absurd hq (Nat.not_lt_zero q), fun q hq => absurd hq (Nat.not_lt_zero q), Nat.zero_le 8, Nat.zero_le 6⟩ ?_ (fun u j => by rw [e7, e6, e5, e4, e3, e2, e1]; rfl)
  · rw [e7, e6, e5, e4, e3, e2, e1]; simp [I_I]; rfl
  · rw [e7, e6, e5, e4, e3, e2, e1]; simp [I_I]; rfl
  · rw [e7, e6, e5, e4, e3, e2, e1]; simp [I_I]; rfl
  · rw [e7, e6, e5, e4, e3, e2, e1]; simp [I_I]; rfl
  · rw [e7, e6, e5, e4, e3, e2, e1]; simp [I_I]; rfl
  · rw [e7, e6, e5, e4, e3, e2, e1]; simp [I_I]; rfl
  · rw [e7, e6, e5, e4, e3, e2, e1]; simp [I_I]; rfl
  · rw [e7, e6, e5, e4, e3, e2, e1]
    exact Fr.sI (A := fun u => u = v) (Fr.sI (A := fun u => u = v) (Fr.sI (A := fun u => u = v) (Fr.sI (A := fun u => u = v) (Fr.sI (A := fun u => u = v) (Fr.sI (A := fun u => u = v) (Fr.sI (A := fun u => u = v) Fr.rf rfl) rfl) rfl) rfl) rfl) rfl) rfl
end RTS
