/-! the beginning -/
def s0 (p : Nat) : Ps := (0, nI (200 + p), 0, -1, 0, 0, 0, 0, 0, 0, [], [], [], (fun _ => none), (fun _ => 0), (fun _ => false), (fun _ => none))
def a0 : Ab := (s0, [], fun _ => false)
theorem RPe_0 {p : Nat} (hp : p < 4) : RPe rs_MF (pb p) [] (s0 p) := by
  have h1 := (by decide +kernel : ∀ p, p < 4 → rs_I rs_MF (pb p) 0 = 0 ∧ rs_I rs_MF (pb p) 1 = nI (200 + p) ∧ rs_I rs_MF (pb p) 2 = 0 ∧ rs_I rs_MF (pb p) 3 = -1 ∧ rs_I rs_MF (pb p) 4 = 0 ∧ rs_I rs_MF (pb p) 6 = 0 ∧ rs_I rs_MF (pb p) 7 = 0 ∧ rs_I rs_MF (pb p) 8 = 0 ∧ rs_I rs_MF (pb p) 9 = 0 ∧ rs_I rs_MF (pb p) 10 = 0) p hp
  have h2 := (by decide +kernel : ∀ p, p < 4 → rs_I rs_MF (pb p) 11 = nI 0 ∧ rs_I rs_MF (pb p + 6) 1 = nI 0 ∧ rs_I rs_MF (pb p + 6) 2 = nI 0 ∧ rs_I rs_MF (pb p + 1) 3 = nI 0) p hp
  have h3 := (by decide +kernel : ∀ p, p < 4 → ∀ k, k < 12 → rs_I rs_MF (pb p + 12) k = 0 ∧ rs_D rs_MF (pb p + 13) k = 0 ∧ rs_I rs_MF (pb p + 11) k = 0 ∧ rs_I rs_MF (pb p + 51 + k) 0 = 0) p hp
  refine ⟨h1, ⟨h2.1, Nat.zero_le _, fun k hk => absurd hk (Nat.not_lt_zero k)⟩, ⟨0, h2.2.1, by omega, h2.2.2.1, Nat.zero_le _, fun k hk => absurd hk (Nat.not_lt_zero k)⟩, ⟨h2.2.2.2, Nat.zero_le _, fun k hk => absurd hk (Nat.not_lt_zero k)⟩, fun k hk => ⟨(h3 k hk).1, (fun r e => by cases e), (h3 k hk).2.1, (h3 k hk).2.2.1⟩, fun k hk => ⟨fun _ => (h3 k hk).2.2.2, fun t e => by cases e⟩⟩
theorem CR_0 : CR rs_MF rs_MF a0 := by
  refine ⟨Gr_0, ⟨?_, Nat.zero_le _, fun k hk => absurd hk (Nat.not_lt_zero k), fun k hk => ?_⟩, ⟨?_, Fr.rf⟩, fun p hp => RPe_0 hp⟩
  · exact (by decide +kernel : rs_I rs_MF 2 3 = nI 0)
  · exact (by decide +kernel : ∀ k, k < 12 → rs_I rs_MF 5 k = b2i false) k hk
  · exact ⟨(by decide +kernel : rs_I rs_MF 7 0 = 0), (by decide +kernel : rs_I rs_MF 7 1 = nI 0), (by decide +kernel : rs_I rs_MF 7 3 = 7), (by decide +kernel : rs_I rs_MF 7 4 = -1), (by decide +kernel : rs_I rs_MF 7 5 = 100), (by decide +kernel : rs_I rs_MF 7 6 = 0), (by decide +kernel : rs_I rs_MF 7 7 = nI 0), Ar_nil, Ar_nil, Nat.zero_le _, Nat.zero_le _⟩
theorem MPe_0 {p : Nat} (hp : p < 4) : MPe rs_MF p (s0 p) := by
  have h1 := (by decide +kernel : ∀ p, p < 4 → rs_I rs_MF 282 p = 0 ∧ rs_I rs_MF 283 p = nI (200 + p) ∧ rs_I rs_MF 284 p = 0 ∧ rs_I rs_MF 285 p = 0 ∧ rs_I rs_MF 286 p = 0 ∧ rs_I rs_MF 287 p = 0 ∧ rs_I rs_MF 288 p = 0 ∧ rs_I rs_MF 289 p = 0 ∧ rs_I rs_MF 290 p = -1 ∧ rs_I rs_MF 291 p = 0) p hp
  have h2 := (by decide +kernel : ∀ p, p < 4 → rs_I rs_MF 292 p = nI 0 ∧ rs_I rs_MF 297 p = nI 0 ∧ rs_I rs_MF 299 p = nI 0) p hp
  have h3 := (by decide +kernel : ∀ p, p < 4 → ∀ k, k < 12 → rs_I rs_MF 303 (12 * p + k) = 0 ∧ rs_D rs_MF 313 (12 * p + k) = 0 ∧ rs_I rs_MF 314 (12 * p + k) = 0 ∧ rs_I rs_MF 315 (12 * p + k) = -1) p hp
  exact ⟨h1, ⟨h2.1, Nat.zero_le _, fun k hk => absurd hk (Nat.not_lt_zero k)⟩, ⟨h2.2.1, Nat.zero_le _, fun k hk => absurd hk (Nat.not_lt_zero k)⟩, ⟨h2.2.2, Nat.zero_le _, fun k hk => absurd hk (Nat.not_lt_zero k)⟩, fun k hk => ⟨(h3 k hk).1, (fun r e => by cases e), (h3 k hk).2.1, (h3 k hk).2.2.1⟩, fun k hk => ⟨fun _ => (h3 k hk).2.2.2, fun t e => by cases e⟩⟩
theorem MR_0 : MR rs_MF rs_MF a0 := by
  refine ⟨Gr_0, ⟨?_, Nat.zero_le _, fun k hk => absurd hk (Nat.not_lt_zero k)⟩, ⟨fun k hk => ⟨?_, fun e => by cases e⟩, Fp.rf⟩, fun p hp => MPe_0 hp⟩
  · exact (by decide +kernel : rs_I rs_MF 281 21 = nI 0)
  · exact (by decide +kernel : ∀ k, k < 12 → rs_I rs_MF 303 (48 + k) = 0) k hk
theorem okS_0 {p : Nat} (hp : p < 4) : okS (s0 p) := by
  refine ⟨⟨⟨0, by omega, rfl⟩, Or.inl rfl, (fun q hq => by cases hq), fun k hk => nn_0, nI_ne0 (by omega) (by omega)⟩, ⟨⟨0, by omega, by omega, by omega, rfl⟩, fun z => ?_, fun z => absurd rfl z, fun z => ?_, by show (0 : Int32) ≤ 0; decide, Or.inl rfl⟩, okI_nil rfl, (fun y hy => by cases hy), okR_none (fun k => rfl)⟩
  · exact absurd (show (0 : Int32) = 1 from z) (by decide)
  · exact absurd (show (0 : Int32) = 3 from z) (by decide)
theorem AJ_0 : AJ a0 := by
  refine ⟨⟨⟨(fun q hq => by cases hq), fun k _ => rfl, fun p hp => okS_0 hp⟩, fun p hp h3 => ?_⟩, Nat.zero_le _⟩
  exact absurd (show (0 : Int32) = 3 from h3) (by decide)
/-! from call to call -/
section NX
variable {μ σ τ ρ : rs_Mem} {a b : Ab}
theorem MR.hi (h : MR σ σ a) (f : Hi σ τ) (hG : Gr τ) : MR τ τ a := by
  have fp : Fp (fun u _ => u < 281 ∨ 320 ≤ u) σ τ := f.fp
  exact ⟨hG, h.2.1.fp fp (by omega) (fun k => by omega) (fun k => by omega), ⟨h.2.2.1.1.fp fp (fun u j q1 q2 q3 q4 q5 => by omega), Fp.rf⟩, fun q hq => (h.2.2.2 q hq).fp fp (fun u j z w => by unfold InP at z; omega)⟩
theorem CR.lx (h : CR μ τ a) (f : Lx τ ρ) (hG : Gr ρ) : CR ρ ρ a := by
  have n : ∀ u, u < 281 → ¬ (281 ≤ u ∧ u < 320) := fun u hu z => by omega
  exact ⟨hG, h.2.1.fr f (n _ (by omega)) (n _ (by omega)) (n _ (by omega)) (n _ (by omega)), ⟨h.2.2.1.1.fr f (n _ (by omega)) (n _ (by omega)) (n _ (by omega)), Fr.rf⟩, fun p hp => (h.2.2.2 p hp).fp f.fp (fun u j z1 z2 => Or.inr (n u (by unfold pb at z2; omega)))⟩
theorem CR.hi' (h : CR μ τ a) : Hi μ τ := h.2.2.1.2
theorem Lx.L (f : Lx τ ρ) : rs_L ρ 320 0 = rs_L τ 320 0 := (f 320 (by omega) 0).2.1
theorem Lx.D (f : Lx τ ρ) : rs_D ρ 321 0 = rs_D τ 321 0 := (f 321 (by omega) 0).2.2.1
theorem AJ_rule {x y z u : Int32} (h : AJ a) : AJ (opRule a x y z u).2 := by
  unfold opRule
  split
  · exact h
  · rename_i hg
    have hg := Classical.not_not.mp hg
    obtain ⟨p, hp, rfl⟩ := okP_of hg.1
    rw [tN_nI (by omega)]
    split
    · exact h
    · exact AJ_tAll (AI0_rule h.1.1 hp hg.2.1 hg.2.2.1 hg.2.2.2) h.2
theorem AJ_unrule {x : Int32} (h : AJ a) : AJ (opUnrule a x).2 := by
  unfold opUnrule
  split
  · exact h
  · rename_i hg
    obtain ⟨p, hp, rfl⟩ := okP_of (Classical.not_not.mp hg)
    rw [tN_nI (by omega)]
    exact AJ_tAll (AI0_unrule h.1.1 hp) h.2
theorem AJ_outb {x y z u : Int32} (h : AJ a) : AJ (opOutb a x y z u).2 := by
  unfold opOutb
  split
  · exact h
  · rename_i hg
    have hg := Classical.not_not.mp hg
    obtain ⟨p, hp, rfl⟩ := okP_of hg.1
    rw [tN_nI (by omega)]
    exact AJ_tAll (AI0_outb h.1.1 hp hg.2.1 hg.2.2.1 hg.2.2.2) h.2
theorem lawcond {L i : Nat} (hL : L ≤ 2560) (hi : i ≤ 5000) : (Int32.ofNat L - 5 < nI i) ↔ L < i + 5 := by
  have h1 : (Int32.ofNat L).toInt = (L : Int) := nI_toInt (n := L) (by omega)
  have h5 : (5 : Int32).toInt = 5 := by decide
  rw [Int32.lt_iff_toInt_lt, Int32.toInt_sub, nI_toInt (by omega), h1, h5]
  have hb : ((L : Int) - 5).bmod (2 ^ 32) = (L : Int) - 5 := by
    simp only [Int.bmod]
    split <;> omega
  rw [hb]; omega
end NX
