/-! the model: messages made, sent; sessions closed -/
/-- the model's scratch: code, makes, made, wanted, place, candidate, the route at 60 -/
def ScP : Nat → Nat → Prop := fun u j => (u = 281 ∧ j = 20) ∨ u = 300 ∨ (317 ≤ u ∧ u ≤ 319) ∨ ((u = 303 ∨ u = 304 ∨ u = 305 ∨ (307 ≤ u ∧ u ≤ 311)) ∧ j = 60) ∨ (u = 306 ∧ 480 ≤ j ∧ j < 488) ∨ (u = 312 ∧ 360 ≤ j ∧ j < 366)
section MSE
variable {P : Nat → Nat → Prop} {μ σ τ : rs_Mem} {p : Nat} {s : Ps} {a : Ab}
theorem MPx.fp {pre : List (Int32 × Int32)} (h : MPx σ pre) (f : Fp P σ τ) (h0 : ¬ P 281 21) (h1 : ∀ k, ¬ P 301 k) (h2 : ∀ k, ¬ P 302 k) : MPx τ pre :=
  ⟨(f.I h0).trans h.1, h.2.1, fun k hk => ⟨(f.I (h1 k)).trans (h.2.2 k hk).1, (f.I (h2 k)).trans (h.2.2 k hk).2⟩⟩
theorem MOrg.fp {org : Nat → Bool} (h : MOrg σ org) (f : Fp P σ τ) (h0 : ∀ u j, 303 ≤ u → u ≤ 312 → (u = 306 → 384 ≤ j ∧ j < 480) → (u = 312 → 288 ≤ j ∧ j < 360) → (u ≠ 306 → u ≠ 312 → 48 ≤ j ∧ j < 60) → ¬ P u j) : MOrg τ org := fun k hk =>
  ⟨(f.I (h0 _ _ (by omega) (by omega) (by omega) (by omega) (by omega))).trans (h k hk).1, fun e => ((h k hk).2 e).fp f (fun u q => h0 _ _ (by omega) (by omega) (by omega) (by omega) (by omega)) (fun j q1 q2 => h0 _ _ (by omega) (by omega) (by omega) (by omega) (by omega)) (fun j q1 q2 => h0 _ _ (by omega) (by omega) (by omega) (by omega) (by omega))⟩
/-- one peer's places and the scratch were written -/
theorem MR.pe (h : MR μ σ a) (f : Fp (fun u j => InP p u j ∨ ScP u j) σ τ) (hG : Gr τ) (g : MPe τ p s) (hp : p < 4) : MR μ τ (stPe a p s) := by
  refine ⟨hG, h.2.1.fp f (by unfold InP ScP; omega) (by unfold InP ScP; omega) (by unfold InP ScP; omega), ⟨h.2.2.1.1.fp f (fun u j q1 q2 q3 q4 q5 => by unfold InP ScP; omega), h.2.2.1.2.tr (f.mono fun u j q => by unfold InP ScP at q; omega)⟩, fun q hq => ?_⟩
  show MPe τ q (upO (aPe a) p s q)
  by_cases e : q = p
  · subst e; rw [upO_same]; exact g
  · rw [upO_ne e]
    refine (h.2.2.2 q hq).fp f (fun u j z => fun w => w.elim (InP_ne e z) (fun w => ?_))
    unfold InP at z
    unfold ScP at w
    omega
theorem MR.sc (h : MR μ σ a) (f : Fp ScP σ τ) (hG : Gr τ) : MR μ τ a := by
  refine ⟨hG, h.2.1.fp f (by unfold ScP; omega) (by unfold ScP; omega) (by unfold ScP; omega), ⟨h.2.2.1.1.fp f (fun u j q1 q2 q3 q4 q5 => by unfold ScP; omega), h.2.2.1.2.tr (f.mono fun u j q => by unfold ScP at q; omega)⟩, fun q hq => (h.2.2.2 q hq).fp f (fun u j z w => by unfold InP at z; unfold ScP at w; omega)⟩
/-- what is being made; its first byte comes later -/
def MK (σ : rs_Mem) (l : List Int32) : Prop := rs_I σ 281 20 = nI l.length ∧ l.length ≤ 60 ∧ ∀ k (h : k < l.length), k ≠ 0 → rs_I σ 300 k = l[k]
def MkP : Nat → Nat → Prop := fun u j => (u = 281 ∧ j = 20) ∨ u = 300
theorem P_Mo_begin {x : Int32} {Q : rs_Mem → Prop} (hG : Gr σ) (kk : ∀ τ, MK τ [0, x] → Fp MkP σ τ → Gr τ → Q τ) : F_Mo_begin NF 281 x σ Q := by
  have t0 : (0 : Int32).toNatClampNeg = 0 := by decide
  have t1 : (1 : Int32).toNatClampNeg = 1 := by decide
  unfold F_Mo_begin
  rw [gr_281_19 hG, nf_300, t0]
  refine ⟨vpl rfl, fun σ1 e1 => ?_⟩
  have hG1 : Gr σ1 := e1 ▸ hG
  rw [gr_281_19 hG1, nf_300, t1]
  refine ⟨vpl rfl, fun σ2 e2 σ3 e3 => kk σ3 ⟨by rw [e3]; exact I_same, by simp, fun k hk h0 => ?_⟩ ?_ (by rw [e3, e2]; exact hG1)⟩
  · simp only [List.length_cons, List.length_nil] at hk
    have e : k = 1 := by omega
    subst e
    rw [e3, I_ne (by omega), e2]; exact I_same
  · rw [e3, e2, e1]; exact ((Fp.rf.sI (by unfold MkP; omega)).sI (by unfold MkP; omega)).sI (by unfold MkP; omega)
theorem P_Mo_add {x : Int32} {l : List Int32} {Q : rs_Mem → Prop} (hG : Gr σ) (h : MK σ l) (hl : l.length < 60) (kk : ∀ τ, MK τ (l ++ [x]) → Fp MkP σ τ → Gr τ → Q τ) : F_Mo_add NF 281 x σ Q := by
  obtain ⟨a1, a2, a3⟩ := h
  unfold F_Mo_add
  rw [a1, gr_281_19 hG, nf_300, nIc (by omega)]
  refine ⟨vpn hl (by omega), fun σ1 e1 σ2 e2 => ?_⟩
  have b1 : rs_I σ1 281 20 = nI l.length := by rw [e1, I_ne (by omega)]; exact a1
  rw [b1, nI_1] at e2
  refine kk σ2 ⟨?_, ?_, fun k hk h0 => ?_⟩ ?_ (by rw [e2, e1]; exact hG)
  · rw [e2, List.length_append]; exact I_same
  · rw [List.length_append]; simp; omega
  · rw [List.length_append] at hk
    simp only [List.length_singleton] at hk
    rw [e2, I_ne (by omega), e1]
    by_cases e : k = l.length
    · subst e; rw [I_same]; simp
    · rw [I_nk e, List.getElem_append_left (by omega)]; exact a3 k (by omega) h0
  · rw [e2, e1]; exact (Fp.rf.sI (by unfold MkP; omega)).sI (by unfold MkP; omega)
end MSE
