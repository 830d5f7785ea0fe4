/-! closing, sending -/
def closeS (s : Ps) : Ps := sTol (sInc (sInb (sId (sHo (sKt (sHt (sSt s 0) 0) 0) 0) 0) []) (fun _ => none)) (fun _ => none)
abbrev fitS (s : Ps) (m : List Int32) : Prop := (pOut s).length + m.length ≤ 200
def FPp (p : Nat) : Nat → Prop := fun u => pb p ≤ u ∧ u ≤ pb p + 62
theorem vpl {x : Int32} {n : Nat} (h : decide (¬ (x < 0 ∨ n ≤ x.toNatClampNeg)) = true) : vp_in x n := fun q => (of_decide_eq_true h) q
theorem RPe.mkIT {σ : rs_Mem} {b : Nat} {pre : List (Int32 × Int32)} {s : Ps} {inc : Nat → Option Rt} {tol : Nat → Option (List Int32)} (b1 : RA σ b s) (b2 : RIb σ b (pInb s)) (b3 : ROb σ (b + 6) (pOut s)) (b4 : RRu σ (b + 1) (pRul s)) (b5 : RIn σ b inc (pPen s) (pDmp s)) (b6 : RTo σ b pre tol) : RPe σ b pre (sTol (sInc s inc) tol) := ⟨b1, b2, b3, b4, b5, b6⟩
section SE
variable {σ : rs_Mem} {p : Nat} {pre : List (Int32 × Int32)} {s : Ps}
theorem P_Pe_close {Q : rs_Mem → Prop} (hG : Gr σ) (hp : p < 4) (h : RPe σ (pb p) pre s) (kk : ∀ τ, RPe τ (pb p) pre (closeS s) → Fr (FPp p) σ τ → Gr τ → Q τ) : F_Pe_close NF (pb p) σ Q := by
  intro σ1 e1 σ2 e2 σ3 e3 σ4 e4 σ5 e5 σ6 e6
  have h5 : RPe σ5 (pb p) pre (sId (sHo (sKt (sHt (sSt s 0) 0) 0) 0) 0) := by
    rw [e5, e4, e3, e2, e1]; exact h.sSt.sHt.sKt.sHo.sId
  have f5 : Fr (FPp p) σ σ5 := by
    rw [e5, e4, e3, e2, e1]
    have q : FPp p (pb p) := ⟨Nat.le_refl _, by omega⟩
    exact ((((Fr.rf.sI q).sI q).sI q).sI q).sI q
  have h6 : RPe σ6 (pb p) pre (sInb (sId (sHo (sKt (sHt (sSt s 0) 0) 0) 0) 0) []) := by
    rw [e6]
    refine h5.sInb (Fp.rf.sI (Or.inl ⟨rfl, rfl⟩)) ⟨I_same, by simp, fun k hk => absurd hk (by simp)⟩
  have f6 : Fr (FPp p) σ σ6 := by rw [e6]; exact f5.sI ⟨Nat.le_refl _, by omega⟩
  have hG6 : Gr σ6 := by rw [e6, e5, e4, e3, e2, e1]; exact hG
  obtain ⟨s6, hs6⟩ : ∃ s6, s6 = sInb (sId (sHo (sKt (sHt (sSt s 0) 0) 0) 0) 0) [] := ⟨_, rfl⟩
  rw [← hs6] at h6
  have kk2 : ∀ τ, RPe τ (pb p) pre (sTol (sInc s6 (fun _ => none)) (fun _ => none)) → Fr (FPp p) σ τ → Gr τ → Q τ := fun τ t1 => kk τ (by unfold closeS; rw [← hs6]; exact t1)
  clear kk hs6 h5 f5
  have e12 : (12 : Int32) = nI 12 := by decide
  have e0 : (0 : Int32).toNatClampNeg = 0 := by decide
  have key : ∀ d i τ, i + d = 12 → RA τ (pb p) s6 → RIb τ (pb p) (pInb s6) → ROb τ (pb p + 6) (pOut s6) → RRu τ (pb p + 1) (pRul s6) → RIn τ (pb p) (fun k => if k < i then none else pInc s6 k) (pPen s6) (pDmp s6) → RTo τ (pb p) pre (fun k => if k < i then none else pTol s6 k) → Fr (FPp p) σ τ → Gr τ → L_Pe_close_32 NF Q (d + 1) (pb p) (nI i) τ := by
    intro d
    induction d with
    | zero =>
      intro i τ hi b1 b2 b3 b4 b5 b6 g2 g3
      have e : i = 12 := by omega
      subst e
      refine w_t (by decide) (kk2 τ (RPe.mkIT b1 b2 b3 b4 (fun k hk => ?_) (fun k hk => ?_)) g2 g3)
      · have h9 := b5 k hk
        simp only [if_pos hk] at h9
        exact h9
      · have h9 := b6 k hk
        simp only [if_pos hk] at h9
        exact h9
    | succ d ih =>
      intro i τ hi b1 b2 b3 b4 b5 b6 g2 g3
      refine w_f (fun h => by rw [e12, nIle (by omega) (by omega)] at h; omega) ?_
      rw [gp_0_15 g3 hp, gp_9_2 g3 hp, np_12 hp, nIc (by omega)]
      refine ⟨vpn (by omega) (by omega), fun σ7 e7 => ?_⟩
      have hG7 : Gr σ7 := e7 ▸ g3
      rw [gp_0_16 hG7 hp, np_50 hp, gp_50 hG7 hp (by omega), np_51 hp (by omega), e0]
      refine ⟨vpn (by omega) (by omega), vpl rfl, fun σ8 e8 x ex => ?_⟩
      subst ex
      rw [nI_1]
      have f78 : Fp (fun u j => (u = pb p + 12 ∧ j = i) ∨ (u = pb p + 51 + i)) τ σ8 := by
        rw [e8, e7]; exact (Fp.rf.sI (Or.inl ⟨rfl, rfl⟩)).sI (Or.inr rfl)
      refine ih (i + 1) σ8 (by omega) (b1.fp f78 (by omega)) (b2.fp f78 (by omega) (by omega)) (b3.fp f78 (by omega) (by omega)) (b4.fp f78 (by omega)) (fun k hk => ?_) (fun k hk => ?_) (g2.tr (f78.fr fun u j q => by unfold FPp; omega)) (by rw [e8]; exact hG7)
      · have h9 := b5 k hk
        simp only at h9 ⊢
        by_cases hki : k = i
        · subst hki
          rw [if_pos (by omega)]
          refine ⟨?_, (fun r e => by cases e), ?_, ?_⟩
          · rw [e8, I_ne (by omega), e7]; exact I_same
          · exact (f78.D (by omega)).trans h9.2.2.1
          · exact (f78.I (by omega)).trans h9.2.2.2
        · rw [ite_lt hki]
          exact h9.fp f78 (by omega) (by omega) (by omega) (fun u j q1 q2 => by omega)
      · have h9 := b6 k hk
        simp only at h9 ⊢
        by_cases hki : k = i
        · subst hki
          rw [if_pos (by omega)]
          exact ⟨fun _ => by rw [e8]; exact I_same, (fun t e => by cases e)⟩
        · rw [ite_lt hki]
          exact h9.fp f78 (by omega)
  obtain ⟨b1, b2, b3, b4, b5, b6⟩ := h6
  refine ⟨_, key 12 0 σ6 rfl b1 b2 b3 b4 (fun k hk => ?_) (fun k hk => ?_) f6 hG6⟩
  · simp only [if_neg (Nat.not_lt_zero k)]; exact b5 k hk
  · simp only [if_neg (Nat.not_lt_zero k)]; exact b6 k hk
def sendS (s : Ps) (m : List Int32) : Ps := if (pOut s).length + m.length ≤ 200 then sOut s (pOut s ++ m) else closeS s
theorem P_Pe_send {m : List Int32} {v1 : Nat} {Q : Int32 → rs_Mem → Prop} (hG : Gr σ) (hp : p < 4) (h : RPe σ (pb p) pre s) (hm : Ar σ v1 0 m) (hml : m.length ≤ NF v1) (hb : NF v1 < 1000) (hd : v1 ≠ pb p + 6) (hd2 : v1 ≠ pb p + 7)
    (kk : ∀ τ, RPe τ (pb p) pre (sendS s m) → Fr (FPp p) σ τ → Gr τ → Q (b2i (decide (fitS s m))) τ) : F_Pe_send NF (pb p) v1 (nI m.length) σ Q := by
  unfold F_Pe_send
  rw [gp_0_13 hG hp]
  refine P_Ob_put (gp_6_0 hG hp) (np_7 hp) h.2.2.1 hm hml hb hd hd2 (fun hl τ g1 g2 g3 => ?_) (fun hl => ?_)
  · refine v_f (by decide) ⟨by decide, ?_⟩
    have e : b2i (decide (fitS s m)) = 1 := by unfold fitS; rw [decide_eq_true hl]; rfl
    rw [← e]
    refine kk τ ?_ (g2.mono fun u q => by unfold FPp; omega) (Gr_of hG g3)
    unfold sendS
    rw [if_pos hl]
    exact h.sOut g2 g1
  · refine v_t rfl (P_Pe_close hG hp h (fun τ g1 g2 g3 => ⟨by decide, ?_⟩))
    have e : b2i (decide (fitS s m)) = 0 := by unfold fitS; rw [decide_eq_false hl]; rfl
    rw [← e]
    refine kk τ ?_ g2 g3
    unfold sendS
    rw [if_neg hl]
    exact g1
theorem RPe.draft {A : Nat → Prop} {τ : rs_Mem} {b : Nat} (h : RPe σ b pre s) (f : Fr A σ τ) (hA : ∀ u, A u → u = b + 8) : RPe τ b pre s := h.fp f.fp (fun u j q1 q2 => by
  by_cases e : u = b + 8
  · exact Or.inl e
  · exact Or.inr fun q => e (hA u q))
def endS (s : Ps) (c d : Int32) : Ps := closeS (sendS s [4, 3, c, d])
theorem P_Pe_end {c d : Int32} {Q : rs_Mem → Prop} (hG : Gr σ) (hp : p < 4) (h : RPe σ (pb p) pre s) (kk : ∀ τ, RPe τ (pb p) pre (endS s c d) → Fr (FPp p) σ τ → Gr τ → Q τ) : F_Pe_end NF (pb p) c d σ Q := by
  unfold F_Pe_end
  rw [gp_0_14 hG hp, np_8 hp]
  refine ⟨vpl rfl, fun σ1 e1 => ?_⟩
  have hG1 : Gr σ1 := e1 ▸ hG
  rw [gp_0_14 hG1 hp, np_8 hp]
  refine ⟨vpl rfl, fun σ2 e2 => ?_⟩
  have hG2 : Gr σ2 := e2 ▸ hG1
  rw [gp_0_14 hG2 hp, np_8 hp]
  refine ⟨vpl rfl, fun σ3 e3 => ?_⟩
  have hG3 : Gr σ3 := e3 ▸ hG2
  rw [gp_0_14 hG3 hp, np_8 hp]
  refine ⟨vpl rfl, fun σ4 e4 => ?_⟩
  have hG4 : Gr σ4 := e4 ▸ hG3
  rw [gp_0_14 hG4 hp]
  have f4 : Fr (fun u => u = pb p + 8) σ σ4 := by
    rw [e4, e3, e2, e1]
    exact Fr.sI (A := fun u => u = pb p + 8) (Fr.sI (A := fun u => u = pb p + 8) (Fr.sI (A := fun u => u = pb p + 8) (Fr.sI (A := fun u => u = pb p + 8) Fr.rf rfl) rfl) rfl) rfl
  have h4 : RPe σ4 (pb p) pre s := h.draft f4 (fun _ q => q)
  have hm : Ar σ4 (pb p + 8) 0 [4, 3, c, d] := fun k hk => by
    simp only [List.length_cons, List.length_nil] at hk
    rcases (by omega : k = 0 ∨ k = 1 ∨ k = 2 ∨ k = 3) with rfl | rfl | rfl | rfl
    · rw [e4, e3, e2, e1]; exact ((I_nk (by decide)).trans ((I_nk (by decide)).trans ((I_nk (by decide)).trans I_same)))
    · rw [e4, e3, e2]; exact ((I_nk (by decide)).trans ((I_nk (by decide)).trans I_same))
    · rw [e4, e3]; exact ((I_nk (by decide)).trans I_same)
    · rw [e4]; exact I_same
  refine P_Pe_send (m := [4, 3, c, d]) hG4 hp h4 hm (by rw [np_8 hp]; exact Nat.le_of_ble_eq_true rfl) (by rw [np_8 hp]; decide) (by omega) (by omega) (fun τ g1 g2 g3 => ?_)
  refine P_Pe_close g3 hp g1 (fun ρ t1 t2 t3 => kk ρ t1 (((f4.mono fun u q => by unfold FPp; omega).tr g2).tr t2) t3)
theorem P_Pe_sendKeepalive {Q : rs_Mem → Prop} (hG : Gr σ) (hp : p < 4) (h : RPe σ (pb p) pre s) (kk : ∀ τ, RPe τ (pb p) pre (sendS s [2, 4]) → Fr (FPp p) σ τ → Gr τ → Q τ) : F_Pe_sendKeepalive NF (pb p) σ Q := by
  unfold F_Pe_sendKeepalive
  rw [gp_0_14 hG hp, np_8 hp]
  refine ⟨vpl rfl, fun σ1 e1 => ?_⟩
  have hG1 : Gr σ1 := e1 ▸ hG
  rw [gp_0_14 hG1 hp, np_8 hp]
  refine ⟨vpl rfl, fun σ2 e2 => ?_⟩
  have hG2 : Gr σ2 := e2 ▸ hG1
  rw [gp_0_14 hG2 hp]
  have f2 : Fr (fun u => u = pb p + 8) σ σ2 := by
    rw [e2, e1]
    exact Fr.sI (A := fun u => u = pb p + 8) (Fr.sI (A := fun u => u = pb p + 8) Fr.rf rfl) rfl
  have h2 : RPe σ2 (pb p) pre s := h.draft f2 (fun _ q => q)
  have hm : Ar σ2 (pb p + 8) 0 [2, 4] := fun k hk => by
    simp only [List.length_cons, List.length_nil] at hk
    rcases (by omega : k = 0 ∨ k = 1) with rfl | rfl
    · rw [e2, e1]; exact ((I_nk (by decide)).trans I_same)
    · rw [e2]; exact I_same
  exact P_Pe_send (m := [2, 4]) hG2 hp h2 hm (by rw [np_8 hp]; decide) (by rw [np_8 hp]; decide) (by omega) (by omega) (fun τ g1 g2 g3 => kk τ g1 ((f2.mono fun u q => by unfold FPp; omega).tr g2) g3)
def openS (s : Ps) : Ps := sendS (sHt (sSt s 1) 8) [6, 1, 4, 100, 9, 7]
theorem P_Pe_open {Q : rs_Mem → Prop} (hG : Gr σ) (hp : p < 4) (h : RPe σ (pb p) pre s) (kk : ∀ τ, RPe τ (pb p) pre (openS s) → Fr (FPp p) σ τ → Gr τ → Q τ) : F_Pe_open NF (pb p) σ Q := by
  intro σa ea σb eb
  have hGb : Gr σb := by rw [eb, ea]; exact hG
  have hb : RPe σb (pb p) pre (sHt (sSt s 1) 8) := by rw [eb, ea]; exact h.sSt.sHt
  have fb : Fr (FPp p) σ σb := by
    have q : FPp p (pb p) := ⟨Nat.le_refl _, by omega⟩
    rw [eb, ea]; exact (Fr.rf.sI q).sI q
  rw [gp_0_14 hGb hp, np_8 hp]
  refine ⟨vpl rfl, fun σ1 e1 => ?_⟩
  have hG1 : Gr σ1 := e1 ▸ hGb
  rw [gp_0_14 hG1 hp, np_8 hp]
  refine ⟨vpl rfl, fun σ2 e2 => ?_⟩
  have hG2 : Gr σ2 := e2 ▸ hG1
  rw [gp_0_14 hG2 hp, np_8 hp]
  refine ⟨vpl rfl, fun σ3 e3 => ?_⟩
  have hG3 : Gr σ3 := e3 ▸ hG2
  rw [gp_0_14 hG3 hp, np_8 hp]
  refine ⟨vpl rfl, fun σ4 e4 => ?_⟩
  have hG4 : Gr σ4 := e4 ▸ hG3
  rw [gp_0_14 hG4 hp, np_8 hp]
  refine ⟨vpl rfl, fun σ5 e5 => ?_⟩
  have hG5 : Gr σ5 := e5 ▸ hG4
  rw [gp_0_14 hG5 hp, np_8 hp]
  refine ⟨vpl rfl, fun σ6 e6 => ?_⟩
  have hG6 : Gr σ6 := e6 ▸ hG5
  rw [gp_0_14 hG6 hp]
  have f6 : Fr (fun u => u = pb p + 8) σb σ6 := by
    rw [e6, e5, e4, e3, e2, e1]
    exact Fr.sI (A := fun u => u = pb p + 8) (Fr.sI (A := fun u => u = pb p + 8) (Fr.sI (A := fun u => u = pb p + 8) (Fr.sI (A := fun u => u = pb p + 8) (Fr.sI (A := fun u => u = pb p + 8) (Fr.sI (A := fun u => u = pb p + 8) Fr.rf rfl) rfl) rfl) rfl) rfl) rfl
  have h6 := hb.draft f6 (fun _ q => q)
  have hm : Ar σ6 (pb p + 8) 0 [6, 1, 4, 100, 9, 7] := fun k hk => by
    simp only [List.length_cons, List.length_nil] at hk
    rcases (by omega : k = 0 ∨ k = 1 ∨ k = 2 ∨ k = 3 ∨ k = 4 ∨ k = 5) with rfl | rfl | rfl | rfl | rfl | rfl
    · rw [e6, e5, e4, e3, e2, e1]; exact ((I_nk (by decide)).trans ((I_nk (by decide)).trans ((I_nk (by decide)).trans ((I_nk (by decide)).trans ((I_nk (by decide)).trans I_same)))))
    · rw [e6, e5, e4, e3, e2]; exact ((I_nk (by decide)).trans ((I_nk (by decide)).trans ((I_nk (by decide)).trans ((I_nk (by decide)).trans I_same))))
    · rw [e6, e5, e4, e3]; exact ((I_nk (by decide)).trans ((I_nk (by decide)).trans ((I_nk (by decide)).trans I_same)))
    · rw [e6, e5, e4]; exact ((I_nk (by decide)).trans ((I_nk (by decide)).trans I_same))
    · rw [e6, e5]; exact ((I_nk (by decide)).trans I_same)
    · rw [e6]; exact I_same
  exact P_Pe_send (m := [6, 1, 4, 100, 9, 7]) hG6 hp h6 hm (by rw [np_8 hp]; decide) (by rw [np_8 hp]; decide) (by omega) (by omega) (fun τ g1 g2 g3 => kk τ g1 ((fb.tr (f6.mono fun u q => by unfold FPp; omega)).tr g2) g3)
def passS (s : Ps) : Ps :=
  if pSt s = 0 ∨ (pSt s ≠ 1 ∧ pHo s = 0) then s
  else if ¬ 0 < pHt s - 1 then endS (sHt s (pHt s - 1)) 4 0
  else if pSt s ≠ 3 then sHt s (pHt s - 1)
  else if 0 < pKt s - 1 then sKt (sHt s (pHt s - 1)) (pKt s - 1)
  else sendS (sKt (sKt (sHt s (pHt s - 1)) (pKt s - 1)) (pHo s / 3)) [2, 4]
theorem P_Pe_passTime {Q : rs_Mem → Prop} (hG : Gr σ) (hp : p < 4) (h : RPe σ (pb p) pre s) (kk : ∀ τ, RPe τ (pb p) pre (passS s) → Fr (FPp p) σ τ → Gr τ → Q τ) : F_Pe_passTime NF (pb p) σ Q := by
  have hA := h.1
  obtain ⟨a0, a1, a2, a3, a4, a6, a7, a8, a9, a10⟩ := hA
  have q : FPp p (pb p) := ⟨Nat.le_refl _, by omega⟩
  have main : ¬ (pSt s = 0 ∨ (pSt s ≠ 1 ∧ pHo s = 0)) → B_Pe_passTime_23 NF Q (pb p) σ := fun hc => by
    unfold passS at kk
    rw [if_neg hc] at kk
    intro σ1 e1
    rw [a7] at e1
    have h1 : RPe σ1 (pb p) pre (sHt s (pHt s - 1)) := by rw [e1]; exact h.sHt
    have hG1 : Gr σ1 := e1 ▸ hG
    have f1 : Fr (FPp p) σ σ1 := by rw [e1]; exact Fr.rf.sI q
    obtain ⟨b0, b1, b2, b3, b4, b6, b7, b8, b9, b10⟩ := h1.1
    rw [b7, b6, b8]
    show (0 < pHt s - 1 → _) ∧ (¬ 0 < pHt s - 1 → _)
    refine ⟨fun hh => ?_, fun hh => ?_⟩
    · rw [if_neg (fun z => z hh)] at kk
      show (¬ pSt s = 3 → _) ∧ (pSt s = 3 → _)
      refine ⟨fun h3 => ?_, fun h3 => ?_⟩
      · rw [if_pos h3] at kk
        exact kk σ1 h1 f1 hG1
      · rw [if_neg (fun z => z h3)] at kk
        intro σ2 e2
        have h2 : RPe σ2 (pb p) pre (sKt (sHt s (pHt s - 1)) (pKt s - 1)) := by rw [e2]; exact h1.sKt
        have hG2 : Gr σ2 := e2 ▸ hG1
        have f2 : Fr (FPp p) σ σ2 := by rw [e2]; exact f1.sI q
        obtain ⟨c0, c1, c2, c3, c4, c6, c7, c8, c9, c10⟩ := h2.1
        rw [c8, c9]
        refine ⟨fun h5 => ?_, fun h5 σ3 e3 => ?_⟩
        · have h5 : 0 < pKt s - 1 := h5
          rw [if_pos h5] at kk
          exact kk σ2 h2 f2 hG2
        · have h5 : ¬ 0 < pKt s - 1 := h5
          rw [if_neg h5] at kk
          have h3' : RPe σ3 (pb p) pre (sKt (sKt (sHt s (pHt s - 1)) (pKt s - 1)) (pHo s / 3)) := by rw [e3]; exact h2.sKt
          exact P_Pe_sendKeepalive (e3 ▸ hG2) hp h3' (fun τ g1 g2 g3 => kk τ g1 ((show Fr (FPp p) σ σ3 by rw [e3]; exact f2.sI q).tr g2) g3)
    · rw [if_pos hh] at kk
      exact P_Pe_end hG1 hp h1 (fun τ g1 g2 g3 => kk τ g1 (f1.tr g2) g3)
  have stay : (pSt s = 0 ∨ (pSt s ≠ 1 ∧ pHo s = 0)) → Q σ := fun hc => by
    unfold passS at kk
    rw [if_pos hc] at kk
    exact kk σ h Fr.rf hG
  unfold F_Pe_passTime
  rw [a6, a9]
  refine ⟨fun h0 => stay (Or.inl h0), fun h0 => ⟨fun h1 => main (fun z => ?_), fun h1 => ⟨fun h2 => main (fun z => ?_), fun h2 => stay (Or.inr ⟨h1, h2⟩)⟩⟩⟩
  · rcases z with z | z
    · exact h0 z
    · exact z.1 h1
  · rcases z with z | z
    · exact h0 z
    · exact h2 z.2
end SE
