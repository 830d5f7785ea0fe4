/-! the model's take, session, known, penalty -/
theorem so_in {p u j : Nat} (z : MkP u j ∨ (u = 298 ∧ 200 * p ≤ j ∧ j < 200 * p + 200) ∨ (u = 299 ∧ j = p)) : InP p u j ∨ ScP u j := by
  rcases z with z | z | z
  · right; unfold MkP at z; unfold ScP; omega
  · left; unfold InP; omega
  · left; unfold InP; omega
section MCD2
variable {μ σ τ σ1 : rs_Mem} {a b : Ab} {p k x : Nat} {s : Ps} {c : Int32}
theorem AJ_take {x : Int32} (h : AJ a) : AJ (opTake a x).2.2 := by
  unfold opTake
  split
  · exact h
  · rename_i hx
    obtain ⟨p, hp, rfl⟩ := okP_of (Classical.not_not.mp hx)
    rw [tN_nI (by omega)]
    cases ho : pOut (aPe a p) with
    | nil => exact h
    | cons y t =>
      have key : AJ (stPe a p (sOut (aPe a p) t)) := by
        refine ⟨⟨AI0_pe h.1.1 (okS_out (h.1.1.2.2 p hp) (fun z hz => (h.1.1.2.2 p hp).2.2.2.1 z (by rw [ho]; exact List.mem_cons_of_mem _ hz))), UTD_pe h.1.2 hp (fun k => Or.inl (by rw [stPe_at]; exact ⟨go_Role, go_Rul, go_Dmp, go_Inc, go_Id⟩)) (fun z => ⟨by rw [go_St] at z; exact z, go_Tol, go_Role, go_Pad, go_Ml, go_Ma⟩)⟩, h.2⟩
      simp only
      split <;> exact key
theorem M_take {x : Int32} {Q : Int32 → rs_Mem → Prop} (h : MR σ σ a) (hJ : AJ a) (kk : ResN σ (opTake a x) Q) : F_Mo_take NF 281 x σ Q := by
  have i200 : (200 : Int32) = nI 200 := by decide
  have b26n : ∀ c : Int32, c ≠ 0 → (opTake a x).1 = c → (opTake a x).2.2 = a → B_Mo_take_26 NF Q 281 x 281 c σ := fun c hc h1 h2 σ1 e1 => by
    have g := h.code e1
    exact w_f (by rw [e1, I_same]; exact hc) (doneN g e1 h1 h2 (fun z => absurd (h1.symm.trans z) hc) kk)
  unfold F_Mo_take
  refine P_Mo_isPeer (fun hx => v_f (by decide) ?_) (fun hx => v_t rfl (b26n 1 (by decide) (by unfold opTake; rw [if_pos hx]) (by unfold opTake; rw [if_pos hx])))
  obtain ⟨p, hp, rfl⟩ := okP_of hx
  have v4 : vp_in (nI p) 4 := vpn hp (by omega)
  obtain ⟨d1, d2, d3⟩ := (h.2.2.2 p hp).2.2.2.1
  rw [gr_281_18 h.1, nf_299, nIc (by omega), d1]
  refine ⟨v4, ?_⟩
  cases ho : pOut (aPe a p) with
  | nil =>
    have eop : opTake a (nI p) = (2, 0, a) := by
      unfold opTake; rw [if_neg (fun q => q hx), tN_nI (by omega), ho]
    exact v_t (by decide) (b26n 2 (by decide) (by rw [eop]) (by rw [eop]))
  | cons y t =>
    have hlen : (pOut (aPe a p)).length = t.length + 1 := by rw [ho]; rfl
    have hy : (0 : Int32) ≤ y := (hJ.1.1.2.2 p hp).2.2.2.1 y (by rw [ho]; exact List.mem_cons_self ..)
    have eop : opTake a (nI p) = (0, y.toInt64, stPe a p (sOut (aPe a p) t)) := by
      unfold opTake
      rw [if_neg (fun q => q hx), tN_nI (by omega), ho]
      simp only
      rw [if_neg (fun z => by rw [z] at hy; exact absurd hy (by decide))]
    rw [← ho]
    refine v_f (nI_ne0 (by omega) (by omega)) (fun σ1 e1 => ?_)
    have g := h.code e1
    refine w_t (by rw [e1]; exact I_same) ?_
    obtain ⟨d1, d2, d3⟩ := (g.2.2.2 p hp).2.2.2.1
    have old : ∀ j, j < t.length + 1 → rs_I σ1 298 (200 * p + j) = (y :: t).getD j 0 := fun j hj => by
      rw [d3 j (by omega), List.getD_eq_getElem?_getD, ← ho, List.getElem?_eq_getElem (by omega)]; rfl
    have h0 : rs_I σ1 298 (200 * p) = y := by
      have := old 0 (by omega)
      rw [Nat.add_zero] at this
      exact this
    rw [i200, nI_mul, gr_281_17 g.1, nf_298, gr_281_18 g.1, nf_299, nIc (n := 200 * p) (by omega), nIc (n := p) (by omega), h0, d1, hlen, nI_pred]
    refine ⟨vpn (by omega) (by omega), fun x4 e4 => ?_⟩
    rw [e4]
    clear e4
    refine ⟨v4, v4, fun σ2 e2 x5 e5 => ?_⟩
    subst e5
    have hG2 : Gr σ2 := e2 ▸ g.1
    have c299 : ∀ ρ, Fp (fun u j => u = 298 ∧ 200 * p ≤ j ∧ j < 200 * p + 200) σ2 ρ → rs_I ρ 299 p = nI t.length := fun ρ f => (f.I (by omega)).trans (by rw [e2]; exact I_same)
    have key : ∀ d i ρ, i + d = t.length → (∀ j, j < i → rs_I ρ 298 (200 * p + j) = t.getD j 0) → (∀ j, i ≤ j → j < t.length + 1 → rs_I ρ 298 (200 * p + j) = (y :: t).getD j 0) → Fp (fun u j => u = 298 ∧ 200 * p ≤ j ∧ j < 200 * p + 200) σ2 ρ → Gr ρ → L_Mo_take_65 NF Q (d + 1) 281 (nI p) y (nI (200 * p + i)) ρ := by
      intro d
      induction d with
      | zero =>
        intro i ρ hi r1 r2 r3 r4
        have ei : i = t.length := by omega
        subst ei
        refine ⟨by rw [gr_281_18 r4, nf_299]; exact v4, w_t ?_ ?_⟩
        · rw [gr_281_18 r4, nIc (n := p) (by omega), c299 ρ r3, i200, nI_mul, nI_add]; exact (nIle (by omega) (by omega)).mpr (by omega)
        · have f : Fp (fun u j => MkP u j ∨ (u = 298 ∧ 200 * p ≤ j ∧ j < 200 * p + 200) ∨ (u = 299 ∧ j = p)) σ1 ρ := by
            refine Fp.tr (τ := σ2) (by rw [e2]; exact Fp.rf.sI (Or.inr (Or.inr ⟨rfl, rfl⟩))) (r3.mono fun u j z => Or.inr (Or.inl z))
          have gr : MR σ1 ρ (stPe a p (sOut (aPe a p) t)) := by
            refine g.pe (f.mono fun u j z => so_in z) r4 ((g.2.2.2 p hp).sOut f ⟨c299 ρ r3, by omega, fun j hj => ?_⟩) hp
            · rw [r1 j hj, List.getD_eq_getElem?_getD, List.getElem?_eq_getElem hj]; rfl
          exact doneN gr e1 (by rw [eop]) (by rw [eop]) (fun _ => by rw [eop]) kk
      | succ d ih =>
        intro i ρ hi r1 r2 r3 r4
        refine ⟨by rw [gr_281_18 r4, nf_299]; exact v4, w_f (fun z => ?_) ?_⟩
        · rw [gr_281_18 r4, nIc (n := p) (by omega), c299 ρ r3, i200, nI_mul, nI_add] at z
          have := (nIle (by omega) (by omega)).mp z; omega
        rw [gr_281_17 r4, nf_298, nI_1, nIc (n := 200 * p + i) (by omega), nIc (n := 200 * p + i + 1) (by omega), show 200 * p + i + 1 = 200 * p + (i + 1) by omega, r2 (i + 1) (by omega) (by omega)]
        refine ⟨vpn (by omega) (by omega), vpn (by omega) (by omega), fun σ3 e3 x6 e6 => ?_⟩
        subst e6
        refine ih (i + 1) σ3 (by omega) (fun j hj => ?_) (fun j h1 h2 => ?_) (by rw [e3]; exact r3.sI ⟨rfl, by omega, by omega⟩) (e3 ▸ r4)
        · rw [e3]
          by_cases ej : j = i
          · subst ej; rw [I_same]; rfl
          · rw [I_nk (by omega)]; exact r1 j (by omega)
        · rw [e3, I_nk (by omega)]; exact r2 j (by omega) h2
    refine ⟨_, key t.length 0 σ2 (by omega) (fun j hj => by omega) (fun j _ hj => by rw [e2, I_ne (by omega)]; exact old j hj) Fp.rf hG2⟩
theorem M_session {x w : Int32} {Q : Int32 → rs_Mem → Prop} (h : MR σ σ a) (kk : ∀ τ, MR τ τ a → Lx σ τ → Q (opSess a x w) τ) : F_Mo_session NF 281 x w σ Q := by
  intro σ1 e1
  have g := h.code e1
  have kk := kk σ1 g (g.lx e1)
  unfold opSess at kk
  refine P_Mo_isPeer (fun hx => v_f (by decide) ?_) (fun hx => v_t rfl (by rw [if_pos hx] at kk; exact kk))
  rw [if_neg (fun n => n hx)] at kk
  obtain ⟨p, hp, rfl⟩ := okP_of hx
  have v4 : vp_in (nI p) 4 := vpn hp (by omega)
  rw [tN_nI (by omega)] at kk
  obtain ⟨⟨a1, a2, a3, a4, a5, a6, a7, a8, a9, a10⟩, -, ⟨c1, -⟩, ⟨d1, -⟩, -⟩ := g.2.2.2 p hp
  rw [gr_281_3 g.1, gr_281_4 g.1, gr_281_5 g.1, gr_281_6 g.1, gr_281_7 g.1, gr_281_18 g.1, gr_281_16 g.1, nf_284, nf_285, nf_286, nf_287, nf_288, nf_299, nf_297, nIc (by omega), a3, a4, a5, a6, a7, d1, c1]
  unfold sesV at kk
  refine ⟨fun hd => ?_, fun e => ⟨v4, ?_⟩, fun e => ⟨v4, ?_⟩, fun e => ⟨v4, ?_⟩, fun e => ⟨v4, ?_⟩, fun e => ⟨v4, ?_⟩, fun e => ⟨v4, ?_⟩, fun e => ⟨v4, ?_⟩⟩
  · have nn : ∀ k : Int32, 0 ≤ k.toInt → k.toInt ≤ 6 → w ≠ k := fun k h1 h2 e => by rw [e] at hd; omega
    rw [if_neg (nn 0 (by decide) (by decide)), if_neg (nn 1 (by decide) (by decide)), if_neg (nn 2 (by decide) (by decide)), if_neg (nn 3 (by decide) (by decide)), if_neg (nn 4 (by decide) (by decide)), if_neg (nn 5 (by decide) (by decide)), if_neg (nn 6 (by decide) (by decide))] at kk
    exact kk
  all_goals subst e; exact kk
theorem M_known {Q : Int32 → rs_Mem → Prop} (h : MR σ σ a) (kk : ∀ τ, MR τ τ a → Lx σ τ → Q (nI (aPre a).length) τ) : F_Mo_known NF 281 σ Q := by
  intro σ1 e1
  have g := h.code e1
  rw [g.2.1.1]
  exact kk σ1 g (g.lx e1)
theorem M_pen {x y z : Int32} {Q : UInt64 → rs_Mem → Prop} (h : MR σ σ a) (hl : (aPre a).length ≤ 12) (kk : ∀ τ v, MR τ τ a → Lx σ τ → rs_I τ 281 0 = (opPen a x y z).1 → ((opPen a x y z).1 = 0 → v = (opPen a x y z).2) → Q v τ) : F_Mo_penalty NF 281 x y z σ Q := by
  have i0 : (0 : Int32) = nI 0 := by decide
  have e12 : (12 : Int32) = nI 12 := by decide
  have b20 : ¬ (okP x ∧ isPfx y z) → B_Mo_penalty_20 NF Q 281 x y z 281 σ := fun hc σ1 e1 => by
    have g := h.code e1
    have eop : opPen a x y z = (1, 0) := by unfold opPen; rw [if_pos hc]
    rw [eop] at kk
    exact v_f (by rw [e1, I_same]; decide) (w_f (by decide) (kk σ1 _ g (g.lx e1) (by rw [e1]; exact I_same) (fun q => absurd q (by decide))))
  unfold F_Mo_penalty
  refine P_Mo_isPeer (fun hx => w_f (by decide) (P_Mo_isPrefix (fun hy => w_f (by decide) (fun σ1 e1 => ?_)) (fun hy => w_t rfl (b20 (fun q => hy q.2))))) (fun hx => w_t rfl (b20 (fun q => hx q.1)))
  have g := h.code e1
  obtain ⟨p, hp, rfl⟩ := okP_of hx
  refine v_t (by rw [e1]; exact I_same) (P_Mo_find g.1 g.2.1 (fun hm => ?_) (fun hm => ?_))
  · have hk := mem_lt hm
    generalize hK : (aPre a).idxOf (y, z) = k at hk
    have eop : opPen a (nI p) y z = (0, pPen (aPe a p) k) := by
      unfold opPen; rw [if_neg (fun q => q ⟨hx, hy⟩), if_neg (fun q => q hm), tN_nI (by omega), hK]
    rw [eop] at kk
    unfold B_Mo_penalty_41
    refine w_t (by rw [i0, nIle (by omega) (by omega)]; omega) ?_
    rw [e12, nI_mul, nI_add, gr_281_34 g.1, nf_313, nIc (by omega), ((g.2.2.2 p hp).2.2.2.2.1 k (by omega)).2.2.1]
    exact ⟨vpn (by omega) (by omega), kk σ1 _ g (g.lx e1) (by rw [e1]; exact I_same) (fun _ => rfl)⟩
  · have eop : opPen a (nI p) y z = (0, FP.dconst0) := by
      unfold opPen; rw [if_neg (fun q => q ⟨hx, hy⟩), if_pos hm]
    rw [eop] at kk
    exact w_f (by decide) (kk σ1 _ g (g.lx e1) (by rw [e1]; exact I_same) (fun _ => rfl))
end MCD2
