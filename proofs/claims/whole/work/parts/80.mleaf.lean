/-! THE MODEL over its own cells: leaves -/
def mk (l : Int32) : Int32 := ((255 : Int32) <<< (((8 : Int32) - l) &&& 31)) &&& (255 : Int32)
theorem mk_pfx : ∀ l, l < 9 → ∀ x, x < 256 → (decide ((nI x &&& mk (nI l)) = nI x) == decide ((nI x &&& ((255 : Int32) >>> (nI l &&& 31))) = 0)) = true := by decide +kernel
theorem mk_le : ∀ l, l < 9 → ∀ y, y < 256 → (decide ((nI y &&& mk (nI l)) = 0) == decide (nI y ≤ (255 : Int32) >>> (nI l &&& 31))) = true := by decide +kernel
theorem and_xor (a b m : Int32) : (a ^^^ b) &&& m = (a &&& m) ^^^ (b &&& m) := by
  apply Int32.toBitVec_inj.mp
  simp only [Int32.toBitVec_and, Int32.toBitVec_xor]
  apply BitVec.eq_of_getLsbD_eq
  intro i _
  simp only [BitVec.getLsbD_and, BitVec.getLsbD_xor]
  cases a.toBitVec.getLsbD i <;> cases b.toBitVec.getLsbD i <;> cases m.toBitVec.getLsbD i <;> rfl
theorem xor_zero {a b : Int32} : a ^^^ b = 0 ↔ a = b := by
  constructor
  · intro h
    have := congrArg Int32.toBitVec h
    simp only [Int32.toBitVec_xor] at this
    apply Int32.toBitVec_inj.mp
    exact BitVec.xor_eq_zero_iff.mp this
  · intro h; subst h; exact Int32.xor_self
theorem nI_xor {a b : Nat} : nI a ^^^ nI b = nI (a ^^^ b) := by
  apply Int32.toBitVec_inj.mp
  unfold nI
  simp only [Int32.toBitVec_xor, Int32.toBitVec_ofNat]
  apply BitVec.eq_of_toNat_eq
  simp [Nat.xor_mod_two_pow]
theorem mPfx {l x : Int32} : (0 ≤ l ∧ l ≤ 8 ∧ 0 ≤ x ∧ x ≤ 255 ∧ (x &&& mk l) = x) ↔ isPfx l x := by
  unfold isPfx
  constructor
  · rintro ⟨h1, h2, h3, h4, h5⟩
    obtain ⟨i, hi, rfl⟩ := nI_of2 (n := 8) (x := l) (M := 8) (by decide) (by grind) h2
    obtain ⟨j, hj, rfl⟩ := nI_of2 (n := 255) (x := x) (M := 255) (by decide) (by grind) h4
    have := mk_pfx i (by omega) j (by omega)
    rw [decide_eq_true h5] at this
    simp only [beq_iff_eq] at this
    exact ⟨h1, h2, h3, h4, of_decide_eq_true this.symm⟩
  · rintro ⟨h1, h2, h3, h4, h5⟩
    obtain ⟨i, hi, rfl⟩ := nI_of2 (n := 8) (x := l) (M := 8) (by decide) (by grind) h2
    obtain ⟨j, hj, rfl⟩ := nI_of2 (n := 255) (x := x) (M := 255) (by decide) (by grind) h4
    have := mk_pfx i (by omega) j (by omega)
    rw [decide_eq_true h5] at this
    simp only [beq_iff_eq] at this
    exact ⟨h1, h2, h3, h4, of_decide_eq_true this⟩
theorem mWi {l a ol oa : Int32} (h : isPfx ol oa) (h1 : 0 ≤ a) (h2 : a ≤ 255) : (ol ≤ l ∧ (a &&& mk ol) = oa) ↔ isWi l a ol oa := by
  have hm := mPfx.mpr h
  obtain ⟨g1, g2, g3, g4, g5⟩ := h
  obtain ⟨i, hi, rfl⟩ := nI_of2 (n := 8) (x := ol) (M := 8) (by decide) (by grind) g2
  obtain ⟨j, hj, rfl⟩ := nI_of2 (n := 255) (x := oa) (M := 255) (by decide) (by grind) g4
  obtain ⟨k, hk, rfl⟩ := nI_of2 (n := 255) (x := a) (M := 255) (by decide) (by grind) h2
  have hx : k ^^^ j < 256 := Nat.xor_lt_two_pow (n := 8) (by omega) (by omega)
  have hle := mk_le i (by omega) (k ^^^ j) hx
  simp only [beq_iff_eq, decide_eq_decide] at hle
  unfold isWi
  rw [nI_xor, ← hle, ← nI_xor, and_xor, hm.2.2.2.2, xor_zero]
