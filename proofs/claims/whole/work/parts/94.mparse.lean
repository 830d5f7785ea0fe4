/-! the model: the parts of an UPDATE -/
def MM (σ : rs_Mem) (p n : Nat) (m : Nat → Nat) : Prop := ∀ j, j < n → rs_I σ 296 (60 * p + j) = nI (m j) ∧ m j < 256
theorem MM.fp {P : Nat → Nat → Prop} {σ τ : rs_Mem} {p n : Nat} {m : Nat → Nat} (h : MM σ p n m) (f : Fp P σ τ) (hP : ∀ j, ¬ P 296 j) : MM τ p n m := fun j hj => ⟨(f.I (hP _)).trans (h j hj).1, (h j hj).2⟩
def FpL : Nat → Nat → Prop := fun u _ => u = 318
def PLc (σ : rs_Mem) (p : Nat) (m : Nat → Nat) (ps : List Nat) : Prop := ∀ x, x < 11 → rs_I σ 318 x = if isNm x then (match fnd1 m ps x with
  | none => -1
  | some i => nI (60 * p + i + 1)) else -1
theorem PLc.fp {P : Nat → Nat → Prop} {σ τ : rs_Mem} {p : Nat} {m : Nat → Nat} {ps : List Nat} (h : PLc σ p m ps) (f : Fp P σ τ) (hP : ∀ j, ¬ P 318 j) : PLc τ p m ps := fun x hx => (f.I (hP _)).trans (h x hx)
/-- from s over dn to i -/
def seg (m : Nat → Nat) : Nat → List Nat → Nat → Prop
  | s, [], i => s = i
  | s, j :: t, i => j = s ∧ seg m (s + 2 + m (s + 1)) t i
theorem seg_le {m : Nat → Nat} : ∀ (l : List Nat) (s i : Nat), seg m s l i → s ≤ i
  | [], s, i, h => Nat.le_of_eq h
  | j :: t, s, i, h => by
    have := seg_le t _ _ h.2
    omega
theorem seg_snoc {m : Nat → Nat} : ∀ (l : List Nat) (s i : Nat), seg m s l i → seg m s (l ++ [i]) (i + 2 + m (i + 1))
  | [], s, i, h => by
    have h : s = i := h
    subst h
    exact ⟨rfl, rfl⟩
  | j :: t, s, i, h => ⟨h.1, seg_snoc t _ _ h.2⟩
theorem badV_nn {m : Nat → Nat} {i : Nat} : badV m i = 0 ∨ ¬ badV m i ≤ 0 := by
  unfold badV
  repeat' split
  all_goals decide
/-- what is known of the attributes once they are tested -/
def VA (m : Nat → Nat) (n : Nat) (ps : List Nat) : Prop := ∀ i, i ∈ ps → i + 2 + m (i + 1) ≤ n ∧ (isNm (m i) → badV m i = 0)
theorem tlv_in {m : Nat → Nat} {e : Nat} : ∀ (f i : Nat) (ps : List Nat), tlv m f i e = some ps → ∀ j, j ∈ ps → j + 2 + m (j + 1) ≤ e
  | 0, _, _, h => by cases h
  | f + 1, i, ps, h => by
    unfold tlv at h
    by_cases hi : i = e
    · rw [if_pos hi] at h
      cases h
      intro j hj; cases hj
    · rw [if_neg hi] at h
      by_cases hl : i + 2 + m (i + 1) ≤ e
      · rw [if_pos hl] at h
        cases ht : tlv m f (i + 2 + m (i + 1)) e with
        | none => rw [ht] at h; cases h
        | some t =>
          rw [ht] at h
          cases h
          intro j hj
          rcases List.mem_cons.mp hj with rfl | hj
          · exact hl
          · exact tlv_in f _ t ht j hj
      · rw [if_neg hl] at h; cases h
theorem attF_0 {m : Nat → Nat} : ∀ (ps dn : List Nat), attF m dn ps = 0 → ∀ j, j ∈ ps → isNm (m j) → badV m j = 0
  | [], _, _ => fun j hj => by cases hj
  | i :: t, dn, h => by
    have h : (if attFlt m dn i ≠ 0 then attFlt m dn i else attF m (dn ++ [i]) t) = 0 := h
    by_cases h0 : attFlt m dn i = 0
    · rw [if_neg (fun z => z h0)] at h
      intro j hj hn
      rcases List.mem_cons.mp hj with rfl | hj
      · unfold attFlt at h0
        split at h0
        · cases h0
        · split at h0
          · unfold isNm at hn; omega
          · first | exact h0 | (rw [if_neg (fun z => z hn)] at h0; exact h0)
      · exact attF_0 t _ h j hj hn
    · rw [if_pos h0] at h; exact absurd h h0
theorem VA_of {m : Nat → Nat} {n : Nat} {ps : List Nat} (h1 : psU m = some ps) (h2 : attF m [] ps = 0) (h3 : toU m ≤ n) : VA m n ps := fun i hi => ⟨by
  have := tlv_in _ _ _ h1 i hi
  omega, attF_0 ps [] h2 i hi⟩
theorem fnd1_some {m : Nat → Nat} {ps : List Nat} {x i : Nat} (h : fnd1 m ps x = some i) : i ∈ ps ∧ m i = x := by
  unfold fnd1 at h
  have h1 := List.mem_of_find?_eq_some h
  have h2 := List.find?_some h
  simp only [beq_iff_eq] at h2
  exact ⟨h1, h2⟩
theorem VA_one {m : Nat → Nat} {n : Nat} {ps : List Nat} {x i : Nat} (h : VA m n ps) (hx : x = 1 ∨ x = 3 ∨ x = 4 ∨ x = 5 ∨ x = 9) (hf : fnd1 m ps x = some i) : i + 3 ≤ n := by
  obtain ⟨h1, h2⟩ := fnd1_some hf
  obtain ⟨q1, q2⟩ := h i h1
  have := q2 (by unfold isNm; omega)
  unfold badV at this
  rw [if_neg (by omega)] at this
  by_cases e : m (i + 1) = 1
  · omega
  · rw [if_pos e] at this; exact absurd this (by decide)
theorem VA_lst {m : Nat → Nat} {n : Nat} {ps : List Nat} {x i : Nat} (h : VA m n ps) (hx : x = 2 ∨ x = 10) (hf : fnd1 m ps x = some i) : i + 2 + m (i + 1) ≤ n ∧ m (i + 1) ≤ (if x = 2 then 8 else 6) := by
  obtain ⟨h1, h2⟩ := fnd1_some hf
  obtain ⟨q1, q2⟩ := h i h1
  have := q2 (by unfold isNm; omega)
  unfold badV at this
  rw [if_pos (by omega), h2] at this
  refine ⟨q1, ?_⟩
  by_cases e : (if x = 2 then 8 else 6) < m (i + 1)
  · rw [if_pos e] at this; exact absurd this (by decide)
  · omega
section MP
variable {σ : rs_Mem} {p n : Nat} {m : Nat → Nat}
theorem P_Mo_isName {x : Nat} {Q : Int32 → rs_Mem → Prop} (hx : x < 1000) (k1 : isNm x → Q 1 σ) (k0 : ¬ isNm x → Q 0 σ) : F_Mo_isName NF (nI x) σ Q := by
  have i1 : (1 : Int32) = nI 1 := by decide
  have i5 : (5 : Int32) = nI 5 := by decide
  have i9 : (9 : Int32) = nI 9 := by decide
  have i10 : (10 : Int32) = nI 10 := by decide
  have b10 : ¬ (1 ≤ x ∧ x ≤ 5) → B_Mo_isName_10 NF Q (nI x) σ := fun hn => by
    unfold B_Mo_isName_10
    rw [i9, i10, nI_lit (by omega) (by omega), nI_lit (by omega) (by omega)]
    exact ⟨fun z => k1 (by unfold isNm; omega), fun z => ⟨fun y => k0 (by unfold isNm; omega), fun y => k1 (by unfold isNm; omega)⟩⟩
  unfold F_Mo_isName
  refine ⟨fun z => b10 ?_, fun z => ⟨fun y => k1 ?_, fun y => b10 ?_⟩⟩
  · rw [i1, nIlt (by omega) (by omega)] at z; omega
  · rw [i1, nIlt (by omega) (by omega)] at z
    rw [i5, nIle (by omega) (by omega)] at y
    unfold isNm; omega
  · rw [i5, nIle (by omega) (by omega)] at y; omega
theorem P_Mo_badValue {i : Nat} {Q : Int32 → rs_Mem → Prop} (hG : Gr σ) (hp : p < 4) (hn60 : n ≤ 60) (hM : MM σ p n m) (hi : i + 2 + m (i + 1) ≤ n) (hn : isNm (m i)) (kk : Q (badV m i) σ) : F_Mo_badValue NF 281 (nI (m i)) (nI (60 * p + i + 2)) (nI (m (i + 1))) σ Q := by
  have i1 : (1 : Int32) = nI 1 := by decide
  have i2 : (2 : Int32) = nI 2 := by decide
  have i6 : (6 : Int32) = nI 6 := by decide
  have i7 : (7 : Int32) = nI 7 := by decide
  have i8 : (8 : Int32) = nI 8 := by decide
  have hLb := (hM (i + 1) (by omega)).2
  generalize hL : m (i + 1) = L at *
  have at0 : L = 1 → rs_I σ 296 (60 * p + i + 2) = nI (m (i + 2)) ∧ m (i + 2) < 256 := fun e => by
    have := hM (i + 2) (by omega)
    rw [show 60 * p + (i + 2) = 60 * p + i + 2 by omega] at this
    exact this
  have vi : L = 1 → vp_in (nI (60 * p + i + 2)) 240 := fun e => vpn (by omega) (by omega)
  -- one byte
  have one98 : ∀ nm : Int32, (nm = 9 → m i = 9) → (nm ≠ 9 → m i ≠ 9) → L = 1 → (¬ (m i = 9 ∧ ¬ numN (m (i + 2))) → Q 0 σ) → ((m i = 9 ∧ ¬ numN (m (i + 2))) → Q 9 σ) → B_Mo_badValue_98 NF Q 281 nm (nI (60 * p + i + 2)) (nI L) 0 σ := fun nm h9 h9' e q0 q9 => by
    have l0 : Q 0 σ → ∃ n : Nat, L_Mo_badValue_122 NF Q n 281 (nI (60 * p + i + 2)) (nI L) 0 0 σ := fun q => ⟨1, ⟨fun _ => q, fun _ => w_t rfl q⟩⟩
    unfold B_Mo_badValue_98
    refine ⟨fun z => l0 (q0 (fun y => h9' z y.1)), fun z => ?_⟩
    rw [gr_281_15 hG, nf_296, nIc (by omega), (at0 e).1]
    have hb := (at0 e).2
    refine ⟨vi e, P_Mo_isNumber (fun hn => v_f (by decide) (l0 (q0 (fun y => ?_)))) (fun hn => v_t rfl (q9 ⟨h9 z, fun y => ?_⟩))⟩
    · rw [isNum_nI (by omega)] at hn; exact y.2 hn
    · exact hn ((isNum_nI (by omega)).mpr y)
  -- lists
  have lst : ∀ nm : Int32, nm ≠ 1 → nm ≠ 3 → nm ≠ 9 → ((∀ j, j < L → numN (m (i + 2 + j))) → Q 0 σ) → (¬ (∀ j, j < L → numN (m (i + 2 + j))) → Q 11 σ) → B_Mo_badValue_49 NF Q 281 nm (nI (60 * p + i + 2)) (nI L) 1 σ := fun nm h1 h3 h9 q0 q1 => by
    unfold B_Mo_badValue_49
    refine v_f h1 ?_
    unfold B_Mo_badValue_67
    refine v_f h3 ?_
    unfold B_Mo_badValue_98
    refine v_f h9 ?_
    have key : ∀ d j, j + d = L → (∀ q, q < j → numN (m (i + 2 + q))) → L_Mo_badValue_122 NF Q (d + 1) 281 (nI (60 * p + i + 2)) (nI L) 1 (nI j) σ := by
      intro d
      induction d with
      | zero =>
        intro j hj g
        have e : j = L := by omega
        subst e
        exact w_t ((nIle (by omega) (by omega)).mpr (by omega)) (q0 g)
      | succ d ih =>
        intro j hj g
        refine w_f (fun h => by have := (nIle (by omega) (by omega)).mp h; omega) (w_f (by decide) ?_)
        have hb := hM (i + 2 + j) (by omega)
        rw [gr_281_15 hG, nf_296, nI_add, nIc (n := 60 * p + i + 2 + j) (by omega), show 60 * p + i + 2 + j = 60 * p + (i + 2 + j) by omega, hb.1]
        refine ⟨vpn (by omega) (by omega), P_Mo_isNumber (fun hn => v_f (by decide) (fun x ex => ?_)) (fun hn => v_t rfl (q1 (fun z => hn ((isNum_nI (by omega)).mpr (z j (by omega))))))⟩
        subst ex
        rw [nI_1]
        refine ih (j + 1) (by omega) (fun q hq => ?_)
        by_cases e : q = j
        · subst e; exact (isNum_nI (by omega)).mp hn
        · exact g q (by omega)
    exact ⟨_, key L 0 (by omega) (fun q hq => by omega)⟩
  unfold badV at kk
  rw [hL] at kk
  have ne1 : ¬ L = 1 → ¬ nI L = 1 := fun z y => z (by rw [i1, nIeq (by omega) (by omega)] at y; exact y)
  have eq1 : L = 1 → nI L = 1 := fun z => by rw [z]; decide
  rcases hn with h | h | h | h | h | h | h
  · rw [h] at kk ⊢
    rw [if_neg (by omega)] at kk
    refine w_f (by decide) (v_f (by decide) ?_)
    unfold B_Mo_badValue_16
    refine w_t rfl ⟨fun z => ?_, fun z => ?_⟩
    · have e : L = 1 := by rw [i1, nIeq (by omega) (by omega)] at z; exact z
      rw [if_neg (fun y => y e), if_pos rfl] at kk
      unfold B_Mo_badValue_49
      refine v_t (by decide) ?_
      rw [gr_281_15 hG, nf_296, nIc (by omega), (at0 e).1, i2, nIle (by have := (at0 e).2; omega) (by omega)]
      refine ⟨vi e, fun hle => ?_, fun hgt => ?_⟩
      · rw [if_neg (by omega)] at kk
        unfold B_Mo_badValue_67
        refine v_f (by decide) (one98 _ (fun y => absurd y (by decide)) (fun _ => by omega) e (fun _ => kk) (fun y => by omega))
      · rw [if_pos (by omega)] at kk; exact kk
    · rw [if_pos (fun y => z (eq1 y))] at kk; exact kk
  · rw [h] at kk ⊢
    rw [if_pos (Or.inl rfl), if_pos rfl] at kk
    refine w_t (by decide) ?_
    unfold B_Mo_badValue_11 B_Mo_badValue_16
    refine w_f (by decide) (v_t (by decide) ?_)
    unfold B_Mo_badValue_36
    rw [i8, nIle (by omega) (by omega)]
    refine ⟨fun hle => lst _ (by decide) (by decide) (by decide) (fun z => ?_) (fun z => ?_), fun hgt => ?_⟩
    · rw [if_neg (by omega), if_pos z] at kk; exact kk
    · rw [if_neg (by omega), if_neg z] at kk; exact kk
    · rw [if_pos (by omega)] at kk; exact kk
  · rw [h] at kk ⊢
    rw [if_neg (by omega)] at kk
    refine w_f (by decide) (v_f (by decide) ?_)
    unfold B_Mo_badValue_16
    refine w_t rfl ⟨fun z => ?_, fun z => ?_⟩
    · have e : L = 1 := by rw [i1, nIeq (by omega) (by omega)] at z; exact z
      rw [if_neg (fun y => y e), if_neg (by omega), if_pos rfl] at kk
      unfold B_Mo_badValue_49
      refine v_f (by decide) ?_
      unfold B_Mo_badValue_67
      refine v_t (by decide) ?_
      have hb := (at0 e).2
      rw [gr_281_15 hG, nf_296, nIc (by omega), (at0 e).1]
      refine ⟨vi e, P_Mo_isNumber (fun hn => w_f (by decide) ?_) (fun hn => w_t rfl ?_)⟩
      · rw [isNum_nI (by omega)] at hn
        rw [gr_281_15 hG, nf_296, (at0 e).1, i7, nI_lit (by omega) (by omega)]
        refine ⟨vi e, fun h7 => ?_, fun h7 => ?_⟩
        · rw [if_neg (fun y => y.elim (fun q => q hn) h7)] at kk
          exact one98 _ (fun y => absurd y (by decide)) (fun _ => by omega) e (fun _ => kk) (fun y => by omega)
        · rw [if_pos (Or.inr h7)] at kk; exact kk
      · rw [if_pos (Or.inl (fun y => hn ((isNum_nI (by omega)).mpr y)))] at kk; exact kk
    · rw [if_pos (fun y => z (eq1 y))] at kk; exact kk
  · rw [h] at kk ⊢
    rw [if_neg (by omega)] at kk
    refine w_f (by decide) (v_f (by decide) ?_)
    unfold B_Mo_badValue_16
    refine w_t rfl ⟨fun z => ?_, fun z => ?_⟩
    · have e : L = 1 := by rw [i1, nIeq (by omega) (by omega)] at z; exact z
      rw [if_neg (fun y => y e), if_neg (by omega), if_neg (by omega), if_neg (by omega)] at kk
      unfold B_Mo_badValue_49
      refine v_f (by decide) ?_
      unfold B_Mo_badValue_67
      exact v_f (by decide) (one98 _ (fun y => absurd y (by decide)) (fun _ => by omega) e (fun _ => kk) (fun y => by omega))
    · rw [if_pos (fun y => z (eq1 y))] at kk; exact kk
  · rw [h] at kk ⊢
    rw [if_neg (by omega)] at kk
    refine w_f (by decide) (v_f (by decide) ?_)
    unfold B_Mo_badValue_16
    refine w_t rfl ⟨fun z => ?_, fun z => ?_⟩
    · have e : L = 1 := by rw [i1, nIeq (by omega) (by omega)] at z; exact z
      rw [if_neg (fun y => y e), if_neg (by omega), if_neg (by omega), if_neg (by omega)] at kk
      unfold B_Mo_badValue_49
      refine v_f (by decide) ?_
      unfold B_Mo_badValue_67
      exact v_f (by decide) (one98 _ (fun y => absurd y (by decide)) (fun _ => by omega) e (fun _ => kk) (fun y => by omega))
    · rw [if_pos (fun y => z (eq1 y))] at kk; exact kk
  · rw [h] at kk ⊢
    rw [if_neg (by omega)] at kk
    refine w_f (by decide) (v_f (by decide) ?_)
    unfold B_Mo_badValue_16
    refine w_t rfl ⟨fun z => ?_, fun z => ?_⟩
    · have e : L = 1 := by rw [i1, nIeq (by omega) (by omega)] at z; exact z
      rw [if_neg (fun y => y e), if_neg (by omega), if_neg (by omega), if_pos rfl] at kk
      unfold B_Mo_badValue_49
      refine v_f (by decide) ?_
      unfold B_Mo_badValue_67
      refine v_f (by decide) (one98 _ (fun _ => h) (fun y => absurd rfl y) e (fun y => ?_) (fun y => ?_))
      · rw [if_neg (fun q => y ⟨h, q⟩)] at kk; exact kk
      · rw [if_pos y.2] at kk; exact kk
    · rw [if_pos (fun y => z (eq1 y))] at kk; exact kk
  · rw [h] at kk ⊢
    rw [if_pos (Or.inr rfl), show (if (10 : Nat) = 2 then 8 else 6) = 6 from rfl] at kk
    refine w_f (by decide) (v_t (by decide) ?_)
    unfold B_Mo_badValue_11 B_Mo_badValue_16
    refine w_f (by decide) (v_f (by decide) ?_)
    unfold B_Mo_badValue_36
    rw [i6, nIle (by omega) (by omega)]
    refine ⟨fun hle => lst _ (by decide) (by decide) (by decide) (fun z => ?_) (fun z => ?_), fun hgt => ?_⟩
    · rw [if_neg (by omega), if_pos z] at kk; exact kk
    · rw [if_neg (by omega), if_neg z] at kk; exact kk
    · rw [if_pos (by omega)] at kk; exact kk
end MP
