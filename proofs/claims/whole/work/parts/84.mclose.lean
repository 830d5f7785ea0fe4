/-! the model closes a session -/
section MCL
variable {μ σ τ : rs_Mem} {p : Nat} {s : Ps} {a : Ab}
def ClP (p : Nat) : Nat → Nat → Prop := fun u j => ((284 ≤ u ∧ u ≤ 288 ∨ u = 297) ∧ j = p) ∨ ((u = 303 ∨ u = 315) ∧ 12 * p ≤ j ∧ j < 12 * p + 12)
theorem P_Mo_close {Q : rs_Mem → Prop} (hG : Gr σ) (hp : p < 4) (h : MPe σ p s) (kk : ∀ τ, MPe τ p (closeS s) → Fp (ClP p) σ τ → Gr τ → Q τ) : F_Mo_close NF 281 (nI p) σ Q := by
  have v4 : vp_in (nI p) 4 := vpn hp (by omega)
  unfold F_Mo_close
  rw [gr_281_3 hG, nf_284, nIc (by omega)]
  refine ⟨v4, fun σ1 e1 => ?_⟩
  have hG1 : Gr σ1 := e1 ▸ hG
  rw [gr_281_16 hG1, nf_297]
  refine ⟨v4, fun σ2 e2 => ?_⟩
  have hG2 : Gr σ2 := e2 ▸ hG1
  rw [gr_281_4 hG2, nf_285]
  refine ⟨v4, fun σ3 e3 => ?_⟩
  have hG3 : Gr σ3 := e3 ▸ hG2
  rw [gr_281_5 hG3, nf_286]
  refine ⟨v4, fun σ4 e4 => ?_⟩
  have hG4 : Gr σ4 := e4 ▸ hG3
  rw [gr_281_6 hG4, nf_287]
  refine ⟨v4, fun σ5 e5 => ?_⟩
  have hG5 : Gr σ5 := e5 ▸ hG4
  rw [gr_281_7 hG5, nf_288]
  refine ⟨v4, fun σ6 e6 => ?_⟩
  have hG6 : Gr σ6 := e6 ▸ hG5
  have f6 : Fp (fun u j => (284 ≤ u ∧ u ≤ 288 ∨ u = 297) ∧ j = p) σ σ6 := by
    rw [e6, e5, e4, e3, e2, e1]
    exact (((((Fp.rf.sI (by omega)).sI (by omega)).sI (by omega)).sI (by omega)).sI (by omega)).sI (by omega)
  have z284 : rs_I σ6 284 p = 0 := by rw [e6, e5, e4, e3, e2, e1]; simp [I_I]
  have z285 : rs_I σ6 285 p = 0 := by rw [e6, e5, e4, e3]; simp [I_I]
  have z286 : rs_I σ6 286 p = 0 := by rw [e6, e5, e4]; simp [I_I]
  have z287 : rs_I σ6 287 p = 0 := by rw [e6, e5]; simp [I_I]
  have z288 : rs_I σ6 288 p = 0 := by rw [e6]; simp [I_I]
  have z297 : rs_I σ6 297 p = 0 := by rw [e6, e5, e4, e3, e2]; simp [I_I]
  obtain ⟨⟨a1, a2, a3, a4, a5, a6, a7, a8, a9, a10⟩, ⟨b1, b2, b3⟩, ⟨c1, c2, c3⟩, ⟨d1, d2, d3⟩, e, g⟩ := h
  have e12 : (12 : Int32) = nI 12 := by decide
  have key : ∀ d i τ, i + d = 12 → (∀ k, k < i → rs_I τ 303 (12 * p + k) = 0 ∧ rs_I τ 315 (12 * p + k) = -1) → Fp (ClP p) σ6 τ → (∀ u j, u ≠ 303 → u ≠ 315 → rs_I τ u j = rs_I σ6 u j) → Gr τ → L_Mo_close_44 NF Q (d + 1) 281 (nI p) (nI i) τ := by
    intro d
    induction d with
    | zero =>
      intro i τ hi g1 g2 g4 g3
      have e : i = 12 := by omega
      subst e
      have ft : Fp (ClP p) σ τ := (f6.mono fun u j q => by unfold ClP; omega).tr g2
      have n : ∀ u j, ¬ ClP p u j → rs_I τ u j = rs_I σ u j := fun u j q => ft.I q
      refine w_t (by decide) (kk τ ⟨⟨?_, ?_, ?_, ?_, ?_, ?_, ?_, ?_, ?_, ?_⟩, ?_, ?_, ?_, fun k hk => ?_, fun k hk => ?_⟩ ft g3)
      · rw [cl_Role]; exact (n _ _ (by unfold ClP; omega)).trans a1
      · rw [cl_Net]; exact (n _ _ (by unfold ClP; omega)).trans a2
      · rw [cl_St]; exact (g4 _ _ (by omega) (by omega)).trans z284
      · rw [cl_Ht]; exact (g4 _ _ (by omega) (by omega)).trans z285
      · rw [cl_Kt]; exact (g4 _ _ (by omega) (by omega)).trans z286
      · rw [cl_Ho]; exact (g4 _ _ (by omega) (by omega)).trans z287
      · rw [cl_Id]; exact (g4 _ _ (by omega) (by omega)).trans z288
      · rw [cl_Pad]; exact (n _ _ (by unfold ClP; omega)).trans a8
      · rw [cl_Ml]; exact (n _ _ (by unfold ClP; omega)).trans a9
      · rw [cl_Ma]; exact (n _ _ (by unfold ClP; omega)).trans a10
      · rw [cl_Rul]
        exact ⟨(n _ _ (by unfold ClP; omega)).trans b1, b2, fun k hk => ⟨(n _ _ (by unfold ClP; omega)).trans (b3 k hk).1, (n _ _ (by unfold ClP; omega)).trans (b3 k hk).2.1, (n _ _ (by unfold ClP; omega)).trans (b3 k hk).2.2⟩⟩
      · rw [cl_Inb]
        exact ⟨(g4 _ _ (by omega) (by omega)).trans z297, Nat.zero_le _, fun k hk => absurd hk (Nat.not_lt_zero k)⟩
      · rw [cl_Out]
        exact ⟨(n _ _ (by unfold ClP; omega)).trans d1, d2, fun k hk => (n _ _ (by unfold ClP; omega)).trans (d3 k hk)⟩
      · rw [cl_Inc, cl_Pen, cl_Dmp]
        obtain ⟨x, y, z, w⟩ := e k hk
        exact ⟨(g1 k hk).1, (fun rt q => by cases q), (ft.D (by unfold ClP; omega)).trans z, (n _ _ (by unfold ClP; omega)).trans w⟩
      · rw [cl_Tol]
        exact ⟨fun _ => (g1 k hk).2, (fun t q => by cases q)⟩
    | succ d ih =>
      intro i τ hi g1 g2 g4 g3
      refine w_f (fun h => by rw [e12, nIle (by omega) (by omega)] at h; omega) ?_
      rw [e12, nI_mul, nI_add, gr_281_24 g3, nf_303, nIc (n := 12 * p + i) (by omega)]
      refine ⟨vpn (by omega) (by omega), fun σ7 e7 => ?_⟩
      have hG7 : Gr σ7 := e7 ▸ g3
      rw [gr_281_36 hG7, nf_315]
      refine ⟨vpn (by omega) (by omega), fun σ8 e8 x ex => ?_⟩
      subst ex
      rw [nI_1]
      refine ih (i + 1) σ8 (by omega) (fun k hk => ?_) (g2.tr (by rw [e8, e7]; exact (Fp.rf.sI (by unfold ClP; omega)).sI (by unfold ClP; omega))) (fun u j q1 q2 => by rw [e8, I_ne q2, e7, I_ne q1]; exact g4 u j q1 q2) (e8 ▸ hG7)
      by_cases ek : k = i
      · subst ek
        exact ⟨by rw [e8, I_ne (by omega), e7]; exact I_same, by rw [e8]; exact I_same⟩
      · exact ⟨by rw [e8, I_ne (by omega), e7, I_nk (by omega)]; exact (g1 k (by omega)).1, by rw [e8, I_nk (by omega), e7, I_ne (by omega)]; exact (g1 k (by omega)).2⟩
  exact ⟨_, key 12 0 σ6 rfl (fun k hk => by omega) Fp.rf (fun _ _ _ _ => rfl) hG6⟩
end MCL
