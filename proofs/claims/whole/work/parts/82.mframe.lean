/-! the model's places, peer by peer -/
def InP (p : Nat) : Nat → Nat → Prop := fun u j =>
  (((282 ≤ u ∧ u ≤ 292) ∨ u = 297 ∨ u = 299) ∧ j = p) ∨ (293 ≤ u ∧ u ≤ 295 ∧ 3 * p ≤ j ∧ j < 3 * p + 3) ∨ (u = 296 ∧ 60 * p ≤ j ∧ j < 60 * p + 60) ∨ (u = 298 ∧ 200 * p ≤ j ∧ j < 200 * p + 200) ∨
  ((u = 303 ∨ u = 304 ∨ u = 305 ∨ (307 ≤ u ∧ u ≤ 311) ∨ (313 ≤ u ∧ u ≤ 315)) ∧ 12 * p ≤ j ∧ j < 12 * p + 12) ∨ (u = 306 ∧ 96 * p ≤ j ∧ j < 96 * p + 96) ∨ (u = 312 ∧ 72 * p ≤ j ∧ j < 72 * p + 72) ∨ (u = 316 ∧ 480 * p ≤ j ∧ j < 480 * p + 480)
section MF
variable {P : Nat → Nat → Prop} {σ τ : rs_Mem} {p : Nat} {s : Ps}
theorem MRt.fp {r : Nat} {rt : Rt} {e : Bool} (h : MRt σ r rt e) (f : Fp P σ τ) (h1 : ∀ u, (u = 304 ∨ u = 305 ∨ (307 ≤ u ∧ u ≤ 311)) → ¬ P u r) (h2 : ∀ j, 8 * r ≤ j → j < 8 * r + 8 → ¬ P 306 j) (h3 : ∀ j, 6 * r ≤ j → j < 6 * r + 6 → ¬ P 312 j) : MRt τ r rt e := by
  obtain ⟨a1, a2, a3, a4, a5, a6, a7, a8, a9, a10, a11⟩ := h
  exact ⟨(f.I (h1 _ (by omega))).trans a1, (f.I (h1 _ (by omega))).trans a2, fun k hk => (f.I (h2 _ (by omega) (by omega))).trans (a3 k hk), (f.I (h1 _ (by omega))).trans a4, (f.I (h1 _ (by omega))).trans a5, (f.I (h1 _ (by omega))).trans a6, (f.I (h1 _ (by omega))).trans a7, (f.I (h1 _ (by omega))).trans a8, fun k hk => (f.I (h3 _ (by omega) (by omega))).trans (a9 k hk), a10, a11⟩
theorem MPe.fp (h : MPe σ p s) (f : Fp P σ τ) (hn : ∀ u j, InP p u j → ¬ P u j) : MPe τ p s := by
  obtain ⟨⟨a1, a2, a3, a4, a5, a6, a7, a8, a9, a10⟩, ⟨b1, b2, b3⟩, ⟨c1, c2, c3⟩, ⟨d1, d2, d3⟩, e, g⟩ := h
  have n : ∀ u j, InP p u j → rs_I τ u j = rs_I σ u j := fun u j q => f.I (hn u j q)
  refine ⟨⟨(n _ _ (by unfold InP; omega)).trans a1, (n _ _ (by unfold InP; omega)).trans a2, (n _ _ (by unfold InP; omega)).trans a3, (n _ _ (by unfold InP; omega)).trans a4, (n _ _ (by unfold InP; omega)).trans a5, (n _ _ (by unfold InP; omega)).trans a6, (n _ _ (by unfold InP; omega)).trans a7, (n _ _ (by unfold InP; omega)).trans a8, (n _ _ (by unfold InP; omega)).trans a9, (n _ _ (by unfold InP; omega)).trans a10⟩, ⟨(n _ _ (by unfold InP; omega)).trans b1, b2, fun k hk => ?_⟩, ⟨(n _ _ (by unfold InP; omega)).trans c1, c2, fun k hk => (n _ _ (by unfold InP; omega)).trans (c3 k hk)⟩, ⟨(n _ _ (by unfold InP; omega)).trans d1, d2, fun k hk => (n _ _ (by unfold InP; omega)).trans (d3 k hk)⟩, fun k hk => ?_, fun k hk => ?_⟩
  · obtain ⟨x, y, z⟩ := b3 k hk
    exact ⟨(n _ _ (by unfold InP; omega)).trans x, (n _ _ (by unfold InP; omega)).trans y, (n _ _ (by unfold InP; omega)).trans z⟩
  · obtain ⟨x, y, z, w⟩ := e k hk
    exact ⟨(n _ _ (by unfold InP; omega)).trans x, fun rt hr => (y rt hr).fp f (fun u q => hn _ _ (by unfold InP; omega)) (fun j q1 q2 => hn _ _ (by unfold InP; omega)) (fun j q1 q2 => hn _ _ (by unfold InP; omega)), (f.D (hn _ _ (by unfold InP; omega))).trans z, (n _ _ (by unfold InP; omega)).trans w⟩
  · obtain ⟨x, y⟩ := g k hk
    refine ⟨fun q => (n _ _ (by unfold InP; omega)).trans (x q), fun t q => ?_⟩
    obtain ⟨y1, y2, y3⟩ := y t q
    exact ⟨(n _ _ (by unfold InP; omega)).trans y1, fun j hj => (n _ _ (by unfold InP; omega)).trans (y2 j hj), y3⟩
theorem InP_ne {q u j : Nat} (h : q ≠ p) (hq : InP q u j) : ¬ InP p u j := by
  unfold InP at hq ⊢
  omega
end MF
