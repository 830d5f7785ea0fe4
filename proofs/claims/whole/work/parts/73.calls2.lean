/-! the class's calls that answer with a number -/
theorem n10 : ¬ (1 : Int32) = 0 := by decide
theorem n20 : ¬ (2 : Int32) = 0 := by decide
theorem L_same {σ : rs_Mem} {a k : Nat} {v : Int64} : rs_L (rs_sL σ a k v) a k = v := if_pos ⟨rfl, rfl⟩
def addPre (a : Ab) (q : Int32 × Int32) : Ab := if q ∈ aPre a then a else stPre a (aPre a ++ [q])
def opOrig (a : Ab) (x y : Int32) : Int32 × Int64 × Ab :=
  if ¬ isPfx x y then (1, 0, a)
  else if (x, y) ∉ aPre a ∧ (aPre a).length = 12 then (2, 0, a)
  else if aOrg a ((aPre a).idxOf (x, y)) = true then (0, 0, addPre a (x, y))
  else (0, 1, tAll 5 (stOrg (addPre a (x, y)) (upO (aOrg a) ((aPre a).idxOf (x, y)) true)))
def opRetr (a : Ab) (x y : Int32) : Int32 × Int64 × Ab :=
  if ¬ isPfx x y then (1, 0, a)
  else if (x, y) ∉ aPre a ∨ aOrg a ((aPre a).idxOf (x, y)) = false then (0, 0, a)
  else (0, 1, tAll 5 (stOrg a (upO (aOrg a) ((aPre a).idxOf (x, y)) false)))
def opStart (a : Ab) (x : Int32) : Int32 × Int64 × Ab :=
  if ¬ okP x then (1, 0, a) else if pSt (aPe a (tN x)) ≠ 0 then (0, 0, a) else (0, 1, tAll 5 (stPe a (tN x) (openS (aPe a (tN x)))))
def opStop (a : Ab) (x : Int32) : Int32 × Int64 × Ab :=
  if ¬ okP x then (1, 0, a) else if pSt (aPe a (tN x)) = 0 then (0, 0, a) else (0, 1, tAll 5 (stPe a (tN x) (endS (aPe a (tN x)) 6 2)))
def opTake (a : Ab) (x : Int32) : Int32 × Int64 × Ab :=
  if ¬ okP x then (1, 0, a) else match pOut (aPe a (tN x)) with
    | [] => (2, 0, a)
    | y :: t => if y = -1 then (2, 0, stPe a (tN x) (sOut (aPe a (tN x)) t)) else (0, y.toInt64, stPe a (tN x) (sOut (aPe a (tN x)) t))
/-- what a call that answers with a number ends in -/
def ResL (μ : rs_Mem) (r : Int32 × Int64 × Ab) (Q : Int32 → rs_Mem → Prop) : Prop := ∀ τ, CR μ τ r.2.2 → (r.1 = 0 → rs_L τ 320 0 = r.2.1) → Q r.1 τ
section CB
variable {μ σ : rs_Mem} {a : Ab} {Q : Int32 → rs_Mem → Prop}
theorem CR.hi {A : Nat → Prop} {τ : rs_Mem} (h : CR μ σ a) (f : Fr A σ τ) (hA : ∀ u, A u → 320 ≤ u) (hG : Gr τ) : CR μ τ a := by
  have n : ∀ u, u < 320 → ¬ A u := fun u hu q => by have := hA u q; omega
  exact ⟨hG, h.2.1.fr f (n _ (by omega)) (n _ (by omega)) (n _ (by omega)) (n _ (by omega)), ⟨h.2.2.1.1.fr f (n _ (by omega)) (n _ (by omega)) (n _ (by omega)), h.2.2.1.2.tr (f.mono fun u q => Or.inr (hA u q))⟩, fun p hp => (h.2.2.2 p hp).fp f.fp (fun u j z1 z2 => Or.inr (n u (by unfold pb at z2; omega)))⟩
theorem out0 {v : Int64} {r : Int32 × Int64 × Ab} {e : rs_Mem} (h : CR μ σ r.2.2) (hr : r.1 = 0) (hv : v = r.2.1) (kk : ResL μ r Q) (he : e = rs_sL σ 320 (0 : Int32).toNatClampNeg v) : Q 0 e := by
  have t0 : (0 : Int32).toNatClampNeg = 0 := by decide
  rw [t0] at he
  have := kk e (h.hi (A := fun u => u = 320) (by rw [he]; exact Fr.sL (A := fun u => u = 320) Fr.rf rfl) (fun u q => by omega) (by rw [he]; exact h.1)) (fun _ => by rw [he, ← hv]; exact L_same)
  rw [hr] at this
  exact this
theorem vp320 : vp_in (0 : Int32) (NF 320) := by rw [nf_320]; exact vpl rfl
theorem C_start {x : Int32} (h : CR μ σ a) (hpad : okPad a) (kk : ResL μ (opStart a x) Q) : F_La_start NF 1 x 320 σ Q := by
  unfold F_La_start F_Sp_start
  refine P_peerNo (fun hx => v_f (by decide) ?_) (fun hx => v_t rfl ⟨rfl, ?_⟩)
  · obtain ⟨p, hp, rfl⟩ := okP_of hx
    have e1 : opStart a (nI p) = if pSt (aPe a p) ≠ 0 then (0, 0, a) else (0, 1, tAll 5 (stPe a p (openS (aPe a p)))) := by
      unfold opStart; rw [if_neg (fun n => n hx), tN_nI (by omega)]
    rw [e1] at kk
    rw [gr_1_1 h.1, nf_6, nIc (by omega), gr_6 h.1 hp]
    refine ⟨vpn hp (by omega), P_Pe_isIdle h hp (fun h0 => v_f (by decide) ?_) (fun h0 => v_t rfl (w_t rfl ⟨vp320, fun e he => ?_⟩))⟩
    · rw [if_neg (fun n => n h0)] at kk
      rw [gr_1_1 h.1, nf_6, gr_6 h.1 hp]
      refine ⟨vpn hp (by omega), P_Pe_open h.1 hp (h.2.2.2 p hp) (fun τ g1 g2 g3 => ?_)⟩
      have hc := h.fp g2 g3 g1
      refine P_Sp_tellAll hc (okPad_pe hpad ?_) (fun τ2 t1 => w_f (by decide) ⟨vp320, fun e he => out0 t1 rfl rfl kk he⟩)
      exact ((cf_send (s := sHt (sSt (aPe a p) 1) 8)).2.2.1).trans (by simp only [sHt, sSt, pPad])
    · rw [if_pos h0] at kk
      exact out0 h rfl rfl kk he
  · unfold opStart at kk
    rw [if_pos hx] at kk
    exact kk σ h (fun z => (n10 z).elim)
theorem C_stop {x : Int32} (h : CR μ σ a) (hpad : okPad a) (kk : ResL μ (opStop a x) Q) : F_La_stop NF 1 x 320 σ Q := by
  unfold F_La_stop F_Sp_stop
  refine P_peerNo (fun hx => v_f (by decide) ?_) (fun hx => v_t rfl ⟨rfl, ?_⟩)
  · obtain ⟨p, hp, rfl⟩ := okP_of hx
    have e1 : opStop a (nI p) = if pSt (aPe a p) = 0 then (0, 0, a) else (0, 1, tAll 5 (stPe a p (endS (aPe a p) 6 2))) := by
      unfold opStop; rw [if_neg (fun n => n hx), tN_nI (by omega)]
    rw [e1] at kk
    rw [gr_1_1 h.1, nf_6, nIc (by omega), gr_6 h.1 hp]
    refine ⟨vpn hp (by omega), P_Pe_isIdle h hp (fun h0 => w_f (by decide) (w_t rfl ⟨vp320, fun e he => ?_⟩)) (fun h0 => w_t rfl ?_)⟩
    · rw [if_pos h0] at kk
      exact out0 h rfl rfl kk he
    · rw [if_neg h0] at kk
      rw [gr_1_1 h.1, nf_6, gr_6 h.1 hp]
      refine ⟨vpn hp (by omega), P_end_a h hp (fun τ hc => ?_)⟩
      refine P_Sp_tellAll hc (okPad_pe hpad ?_) (fun τ2 t1 => w_f (by decide) ⟨vp320, fun e he => out0 t1 rfl rfl kk he⟩)
      exact cl_Pad.trans (cf_send).2.2.1
  · unfold opStop at kk
    rw [if_pos hx] at kk
    exact kk σ h (fun z => (n10 z).elim)
theorem C_take {x : Int32} (h : CR μ σ a) (kk : ResL μ (opTake a x) Q) : F_La_take NF 1 x 320 σ Q := by
  unfold F_La_take F_Sp_take
  refine P_peerNo (fun hx => v_f (by decide) ?_) (fun hx => v_t rfl (Or.inl ⟨rfl, ?_⟩))
  · obtain ⟨p, hp, rfl⟩ := okP_of hx
    have hs := h.2.2.2 p hp
    unfold opTake at kk
    rw [if_neg (fun n => n hx), tN_nI (by omega)] at kk
    rw [gr_1_1 h.1, nf_6, nIc (by omega), gr_6 h.1 hp, gp_0_13 h.1 hp]
    refine ⟨vpn hp (by omega), P_Ob_pull (gp_6_0 h.1 hp) (np_7 hp) hs.2.2.1 (fun h0 => v_t rfl (Or.inr ⟨rfl, ?_⟩)) (fun y t hy τ g1 g2 g3 => ?_)⟩
    · rw [h0] at kk
      exact kk σ h (fun z => (n20 z).elim)
    · rw [hy] at kk
      have hc : CR μ τ (stPe a p (sOut (aPe a p) t)) := h.fp (g2.mono fun u q => by unfold FPp; omega) (Gr_of h.1 g3) (hs.sOut (g2.mono fun u q => by omega) g1)
      refine ⟨fun hne => ⟨vp320, fun e he => ?_⟩, fun he => Or.inr ⟨rfl, ?_⟩⟩
      · simp only [if_neg hne] at kk
        exact out0 hc rfl rfl kk he
      · simp only [if_pos he] at kk
        exact kk τ hc (fun z => (n20 z).elim)
  · unfold opTake at kk
    rw [if_pos hx] at kk
    exact kk σ h (fun z => (n10 z).elim)
/-- originated or not, written -/
theorem CR.org {k : Nat} {b : Bool} {τ : rs_Mem} (h : CR μ σ a) (e : τ = rs_sI σ 5 k (b2i b)) : CR μ τ (stOrg a (upO (aOrg a) k b)) := by
  subst e
  have f : Fr (fun u => u = 5) σ (rs_sI σ 5 k (b2i b)) := Fr.sI (A := fun u => u = 5) Fr.rf rfl
  refine ⟨h.1, ⟨(f.I (by omega) _).trans h.2.1.1, h.2.1.2.1, fun j hj => ⟨(f.I (by omega) _).trans (h.2.1.2.2.1 j hj).1, (f.I (by omega) _).trans (h.2.1.2.2.1 j hj).2⟩, fun j hj => ?_⟩, ⟨h.2.2.1.1.fr f (by omega) (by omega) (by omega), h.2.2.1.2.tr (f.mono fun u z => Or.inl (by omega))⟩, fun p hp => (h.2.2.2 p hp).fp f.fp (fun u j z1 z2 => Or.inr (by unfold pb at *; omega))⟩
  show rs_I _ 5 j = b2i (upO (aOrg a) k b j)
  by_cases ej : j = k
  · subst ej; rw [upO_same]; exact I_same
  · rw [upO_ne ej]; exact (I_nk ej).trans (h.2.1.2.2.2 j hj)
theorem C_retr {x y : Int32} (h : CR μ σ a) (hpad : okPad a) (kk : ResL μ (opRetr a x y) Q) : F_La_retract NF 1 x y 320 σ Q := by
  have hl := h.2.1.2.1
  unfold F_La_retract F_Sp_retract
  unfold opRetr at kk
  refine P_Sp_isPrefix (fun hx => v_f (by decide) ?_) (fun hx => v_t rfl ⟨rfl, ?_⟩)
  · rw [if_neg (fun n => n hx)] at kk
    rw [gr_1_0 h.1]
    refine P_Px_find h.1 h.2.1 (fun hm => ?_) (fun hm => w_t rfl (w_t rfl ⟨vp320, fun e he => ?_⟩))
    · have hk := mem_lt hm
      rw [gr_1_0 h.1, gr_2_2 h.1, nf_5, nIc (by omega), h.2.1.2.2.2 _ (by omega)]
      refine w_f (nIm1 (by omega)) ⟨vpn (by omega) (by omega), fun hz => ⟨vpn (by omega) (by omega), fun σ1 e1 => ?_⟩, fun hz => ?_⟩
      · have ho : ¬ ((x, y) ∉ aPre a ∨ aOrg a ((aPre a).idxOf (x, y)) = false) := fun n => n.elim (fun z => z hm) (fun z => hz (by rw [z]; rfl))
        rw [if_neg ho] at kk
        refine P_Sp_tellAll (h.org (b := false) e1) hpad (fun τ t1 => w_f (by decide) ⟨vp320, fun e he => out0 t1 rfl rfl kk he⟩)
      · rw [if_pos (Or.inr (b2i_ne.mp hz))] at kk
        exact w_t rfl ⟨vp320, fun e he => out0 h rfl rfl kk he⟩
    · rw [if_pos (Or.inl hm)] at kk
      exact out0 h rfl rfl kk he
  · rw [if_pos hx] at kk
    exact kk σ h (fun z => (n10 z).elim)
theorem C_orig {x y : Int32} (h : CR μ σ a) (hpad : okPad a) (kk : ResL μ (opOrig a x y) Q) : F_La_originate NF 1 x y 320 σ Q := by
  have hl := h.2.1.2.1
  unfold F_La_originate F_Sp_originate
  unfold opOrig at kk
  refine P_Sp_isPrefix (fun hx => v_f (by decide) ?_) (fun hx => v_t rfl (Or.inl ⟨rfl, ?_⟩))
  · rw [if_neg (fun n => n hx)] at kk
    rw [gr_1_0 h.1]
    have fin : ∀ τ k, k = (aPre a).idxOf (x, y) → k < 12 → ¬ ((x, y) ∉ aPre a ∧ (aPre a).length = 12) → CR μ τ (addPre a (x, y)) →
        (vp_in (nI k) (NF (rs_R τ (rs_R τ 1 0) 2)) ∧ (((rs_I τ (rs_R τ (rs_R τ 1 0) 2) (nI k).toNatClampNeg) = 0 → (vp_in (nI k) (NF (rs_R τ (rs_R τ 1 0) 2)) ∧ ∀ σ62 : rs_Mem, σ62 = rs_sI τ (rs_R τ (rs_R τ 1 0) 2) (nI k).toNatClampNeg (1 : Int32) → (F_Sp_tellAll NF 1 σ62 (fun σ63 => ((1 : Int32) = 0 → (vp_in (0 : Int32) (NF 320) ∧ ∀ σ56 : rs_Mem, σ56 = rs_sL σ63 320 (0 : Int32).toNatClampNeg (0 : Int64) → (Q (0 : Int32) σ56))) ∧ (¬ ((1 : Int32) = 0) → (vp_in (0 : Int32) (NF 320) ∧ ∀ σ56 : rs_Mem, σ56 = rs_sL σ63 320 (0 : Int32).toNatClampNeg (1 : Int64) → (Q (0 : Int32) σ56))))))) ∧ (¬ ((rs_I τ (rs_R τ (rs_R τ 1 0) 2) (nI k).toNatClampNeg) = 0) → (((0 : Int32) = 0 → (vp_in (0 : Int32) (NF 320) ∧ ∀ σ56 : rs_Mem, σ56 = rs_sL τ 320 (0 : Int32).toNatClampNeg (0 : Int64) → (Q (0 : Int32) σ56))) ∧ (¬ ((0 : Int32) = 0) → (vp_in (0 : Int32) (NF 320) ∧ ∀ σ56 : rs_Mem, σ56 = rs_sL τ 320 (0 : Int32).toNatClampNeg (1 : Int64) → (Q (0 : Int32) σ56))))))) := fun τ k ek hk hno hc => by
      have eo : aOrg (addPre a (x, y)) = aOrg a := by unfold addPre; split <;> rfl
      rw [if_neg hno, ← ek] at kk
      rw [gr_1_0 hc.1, gr_2_2 hc.1, nf_5, nIc (by omega), hc.2.1.2.2.2 k hk, eo]
      refine ⟨vpn hk (by omega), fun hz => ⟨vpn hk (by omega), fun σ1 e1 => ?_⟩, fun hz => w_t rfl ⟨vp320, fun e he => ?_⟩⟩
      · rw [if_neg (by rw [b2i_ne.mp hz]; decide)] at kk
        have hc1 := hc.org (b := true) e1
        rw [eo] at hc1
        refine P_Sp_tellAll hc1 (fun q hq => ?_) (fun τ2 t1 => w_f (by decide) ⟨vp320, fun e he => out0 t1 rfl rfl kk he⟩)
        have : aPe (stOrg (addPre a (x, y)) (upO (aOrg a) k true)) q = aPe a q := by unfold addPre; split <;> rfl
        rw [this]; exact hpad q hq
      · have ho : aOrg a k = true := by
          cases hb : aOrg a k with
          | true => rfl
          | false => rw [hb] at hz; exact absurd rfl hz
        rw [if_pos ho] at kk
        exact out0 hc rfl rfl kk he
    refine P_Px_learn h.1 h.2.1 (fun hm => ?_) (fun hm h12 => ?_) (fun hm hl12 τ g1 g2 g3 => ?_)
    · have hk := mem_lt hm
      refine v_f (nIm1 (by omega)) (fin σ _ rfl (by omega) (fun n => n.1 hm) ?_)
      unfold addPre; rw [if_pos hm]; exact h
    · rw [if_pos ⟨hm, h12⟩] at kk
      exact v_t rfl (Or.inr ⟨rfl, kk σ h (fun z => (n20 z).elim)⟩)
    · have hidx : (aPre a).idxOf (x, y) = (aPre a).length := List.idxOf_eq_length hm
      refine v_f (nIm1 (by omega)) (fin τ _ hidx.symm (by omega) (fun n => by omega) ?_)
      unfold addPre; rw [if_neg hm]
      exact h.learn g2 g1 (Gr_of h.1 g3)
  · rw [if_pos hx] at kk
    exact kk σ h (fun z => (n10 z).elim)
end CB
