/-! a message that has come in whole -/
def sentS (s : Ps) (m : Nat → Nat) (ty : Int32) : Ps :=
  if ty ≠ 1 then endS s 5 1
  else if m 2 ≠ 4 then endS s 2 1
  else if nI (m 3) ≠ pNet s then endS s 2 2
  else if ¬ numN (m 5) ∨ m 5 = 7 then endS s 2 3
  else if m 4 = 1 ∨ m 4 = 2 then endS s 2 6
  else sendS (sHt (sSt (sId (sHo s (nI (min (m 4) 9))) (nI (m 5))) 2) (nI (min (m 4) 9))) [2, 4]
def agrS (s : Ps) (ty : Int32) : Ps := if ty = 4 then sKt (sHt (sSt s 3) (pHo s)) (pHo s / 3) else endS s 5 2
def sizOK (ty sz : Nat) : Prop := if ty = 1 then sz = 6 else if ty = 2 then 4 ≤ sz else if ty = 3 then sz = 4 else sz = 2
def mOf (l : List Int32) (k : Nat) : Nat := (l.getD k 0).toNatClampNeg
/-- a message that is looked at: its bytes have been in the inbox -/
noncomputable def lookA (a : Ab) (p : Nat) (m : Nat → Nat) : Ab :=
  if m 0 < 2 ∨ 60 < m 0 then stPe a p (endS (aPe a p) 1 2)
  else if m 1 < 1 ∨ 4 < m 1 then stPe a p (endS (aPe a p) 1 3)
  else if (if m 1 = 1 then m 0 = 6 else if m 1 = 2 then 4 ≤ m 0 else if m 1 = 3 then m 0 = 4 else m 0 = 2) then
    (if m 1 = 3 then stPe a p (closeS (aPe a p))
     else if pSt (aPe a p) = 1 then stPe a p (sentS (aPe a p) m (nI (m 1)))
     else if pSt (aPe a p) = 2 then stPe a p (agrS (aPe a p) (nI (m 1)))
     else upA a p m (m 0) (nI (m 1)))
  else stPe a p (endS (aPe a p) 1 2)
section MS
variable {μ σ : rs_Mem} {a : Ab} {p n : Nat} {m : Nat → Nat} {Q : rs_Mem → Prop}
theorem CR.fp {τ : rs_Mem} {s : Ps} (h : CR μ σ a) (f : Fr (FPp p) σ τ) (hG : Gr τ) (g : RPe τ (pb p) (aPre a) s) (hp : p < 4 := by assumption) : CR μ τ (stPe a p s) := h.pe (f.mono fun u z => Or.inl z) hG g
theorem P_end_a {c d : Int32} (h : CR μ σ a) (hp : p < 4) (kk : ∀ τ, CR μ τ (stPe a p (endS (aPe a p) c d)) → Q τ) : F_Pe_end NF (pb p) c d σ Q := P_Pe_end h.1 hp (h.2.2.2 p hp) (fun τ g1 g2 g3 => kk τ (h.fp g2 g3 g1))
theorem P_Pe_lookWhenAgreed {ty : Int32} (h : CR μ σ a) (hp : p < 4) (kk : ∀ τ, CR μ τ (stPe a p (agrS (aPe a p) ty)) → Q τ) : F_Pe_lookWhenAgreed NF (pb p) ty σ Q := by
  have hs := h.2.2.2 p hp
  unfold agrS at kk
  refine ⟨fun h4 σ1 e1 σ2 e2 σ3 e3 => ?_, fun h4 => ?_⟩
  · rw [if_pos h4] at kk
    have h1 : RPe σ1 (pb p) (aPre a) (sSt (aPe a p) 3) := by rw [e1]; exact hs.sSt
    have g9 : rs_I σ1 (pb p) 9 = pHo (aPe a p) := by rw [e1, I_nk (by omega)]; exact hs.1.2.2.2.2.2.2.2.2.1
    rw [g9] at e2
    have h2 : RPe σ2 (pb p) (aPre a) (sHt (sSt (aPe a p) 3) (pHo (aPe a p))) := by rw [e2]; exact h1.sHt
    have g9' : rs_I σ2 (pb p) 9 = pHo (aPe a p) := by rw [e2, I_nk (by omega)]; exact g9
    rw [g9'] at e3
    have h3 : RPe σ3 (pb p) (aPre a) (sKt (sHt (sSt (aPe a p) 3) (pHo (aPe a p))) (pHo (aPe a p) / 3)) := by rw [e3]; exact h2.sKt
    refine kk σ3 (h.fp ?_ (by rw [e3, e2, e1]; exact h.1) h3)
    have q : FPp p (pb p) := ⟨Nat.le_refl _, by omega⟩
    rw [e3, e2, e1]; exact ((Fr.rf.sI q).sI q).sI q
  · rw [if_neg h4] at kk
    exact P_end_a h hp kk
theorem P_Pe_lookWhenSent {ty : Int32} (h : CR μ σ a) (hp : p < 4) (hm : ty = 1 → Mg σ (pb p + 5) 6 m) (kk : ∀ τ, CR μ τ (stPe a p (sentS (aPe a p) m ty)) → Q τ) : F_Pe_lookWhenSent NF (pb p) ty σ Q := by
  have hs := h.2.2.2 p hp
  have hpb : 29 ≤ pb p := by unfold pb; omega
  have t2 : (2 : Int32).toNatClampNeg = 2 := by decide
  have t3 : (3 : Int32).toNatClampNeg = 3 := by decide
  have t4 : (4 : Int32).toNatClampNeg = 4 := by decide
  have t5 : (5 : Int32).toNatClampNeg = 5 := by decide
  have i1 : (1 : Int32) = nI 1 := by decide
  have i2 : (2 : Int32) = nI 2 := by decide
  have i4 : (4 : Int32) = nI 4 := by decide
  have i7 : (7 : Int32) = nI 7 := by decide
  have i9 : (9 : Int32) = nI 9 := by decide
  unfold sentS at kk
  unfold F_Pe_lookWhenSent
  refine ⟨fun h1 => ?_, fun h1 => ?_⟩
  rotate_left
  · rw [if_pos h1] at kk
    exact P_end_a h hp kk
  rw [if_neg (fun z => z h1)] at kk
  have hm := hm h1
  rw [gp_0_12 h.1 hp, np_5 hp, t4, t2, t3, t5, (hm 4 (by omega)).1, (hm 2 (by omega)).1, (hm 3 (by omega)).1, (hm 5 (by omega)).1, hs.1.2.1]
  have b4 := (hm 4 (by omega)).2
  have b5 := (hm 5 (by omega)).2
  have b2 := (hm 2 (by omega)).2
  refine ⟨vpl rfl, fun x ex => ⟨vpl rfl, ?_⟩⟩
  subst ex
  show (nI (m 2) = (4 : Int32) → _) ∧ (¬ nI (m 2) = (4 : Int32) → _)
  rw [i4, nI_lit (by omega) (by omega)]
  refine ⟨fun h2 => ⟨vpl rfl, ?_⟩, fun h2 => ?_⟩
  rotate_left
  · rw [if_pos h2] at kk
    exact P_end_a h hp kk
  rw [if_neg (fun z => z h2)] at kk
  refine ⟨fun h3 => ⟨vpl rfl, ?_⟩, fun h3 => ?_⟩
  rotate_left
  · rw [if_pos h3] at kk
    exact P_end_a h hp kk
  rw [if_neg (fun z => z h3)] at kk
  have bad : (¬ numN (m 5) ∨ m 5 = 7) → B_Pe_lookWhenSent_83 NF Q (pb p) σ := fun hb => by
    rw [if_pos hb] at kk
    exact P_end_a h hp kk
  refine P_Sp_isNumber (fun hn => w_f (by decide) ?_) (fun hn => w_t rfl (bad (Or.inl (fun z => hn ((isNum_nI (by omega)).mpr z)))))
  rw [isNum_nI (by omega)] at hn
  rw [gp_0_12 h.1 hp, np_5 hp, (hm 5 (by omega)).1, i7, nI_lit (by omega) (by omega)]
  refine ⟨vpl rfl, fun h7 => ?_, fun h7 => bad (Or.inr h7)⟩
  rw [if_neg (fun z => z.elim (fun y => y hn) h7)] at kk
  have bad2 : (m 4 = 1 ∨ m 4 = 2) → B_Pe_lookWhenSent_102 NF Q (pb p) σ := fun hb => by
    rw [if_pos hb] at kk
    exact P_end_a h hp kk
  rw [i1, i2, nI_lit (by omega) (by omega), nI_lit (by omega) (by omega)]
  refine ⟨fun z => bad2 (Or.inl z), fun z1 => ⟨fun z2 σ1 e1 => ⟨by rw [gp_0_12 (e1 ▸ h.1) hp, np_5 hp]; exact vpl rfl, fun σ2 e2 σ3 e3 σ4 e4 => ?_⟩, fun z => bad2 (Or.inr z)⟩⟩
  rw [if_neg (fun z => z.elim z1 z2)] at kk
  have em : (if nI (m 4) < (9 : Int32) then nI (m 4) else (9 : Int32)) = nI (min (m 4) 9) := by
    by_cases e : m 4 < 9
    · rw [if_pos (by rw [i9, nIlt (by omega) (by omega)]; exact e), Nat.min_eq_left (by omega)]
    · rw [if_neg (by rw [i9, nIlt (by omega) (by omega)]; exact e), Nat.min_eq_right (by omega)]; exact i9
  rw [em] at e1
  generalize hH : nI (min (m 4) 9) = H at e1 kk
  have hG1 : Gr σ1 := e1 ▸ h.1
  have h1' : RPe σ1 (pb p) (aPre a) (sHo (aPe a p) H) := by rw [e1]; exact hs.sHo
  have g5 : rs_I σ1 (pb p + 5) 5 = nI (m 5) := by rw [e1, I_ne (by omega)]; exact (hm 5 (by omega)).1
  rw [gp_0_12 hG1 hp, g5] at e2
  have h2' : RPe σ2 (pb p) (aPre a) (sId (sHo (aPe a p) H) (nI (m 5))) := by rw [e2]; exact h1'.sId
  have h3' : RPe σ3 (pb p) (aPre a) (sSt (sId (sHo (aPe a p) H) (nI (m 5))) 2) := by rw [e3]; exact h2'.sSt
  have g9 : rs_I σ3 (pb p) 9 = H := by rw [e3, I_nk (by omega), e2, I_nk (by omega), e1]; exact I_same
  rw [g9] at e4
  have h4' : RPe σ4 (pb p) (aPre a) (sHt (sSt (sId (sHo (aPe a p) H) (nI (m 5))) 2) H) := by rw [e4]; exact h3'.sHt
  have q : FPp p (pb p) := ⟨Nat.le_refl _, by omega⟩
  have f4 : Fr (FPp p) σ σ4 := by rw [e4, e3, e2, e1]; exact (((Fr.rf.sI q).sI q).sI q).sI q
  have hG4 : Gr σ4 := by rw [e4, e3, e2]; exact hG1
  exact P_Pe_sendKeepalive hG4 hp h4' (fun τ g1 g2 g3 => kk τ (h.fp (f4.tr g2) g3 g1))
theorem P_Pe_isSizeOf {ty sz : Nat} {Q : Int32 → rs_Mem → Prop} (h1 : 1 ≤ ty) (h4 : ty ≤ 4) (hz : sz < 1000) (k1 : (if ty = 1 then sz = 6 else if ty = 2 then 4 ≤ sz else if ty = 3 then sz = 4 else sz = 2) → Q 1 σ) (k0 : ¬ (if ty = 1 then sz = 6 else if ty = 2 then 4 ≤ sz else if ty = 3 then sz = 4 else sz = 2) → Q 0 σ) : F_Pe_isSizeOf NF (nI ty) (nI sz) σ Q := by
  have i1 : (1 : Int32) = nI 1 := by decide
  have i2 : (2 : Int32) = nI 2 := by decide
  have i3 : (3 : Int32) = nI 3 := by decide
  have i4 : (4 : Int32) = nI 4 := by decide
  have i6 : (6 : Int32) = nI 6 := by decide
  have ht : (nI ty).toInt = (ty : Int) := nI_toInt (by omega)
  have a1 : ∀ x : Nat, x < 1000 → ∀ k : Nat, k < 1000 → ∀ c : Int32, c = nI k → (nI x = c ↔ x = k) := fun x hx k hk c hc => by rw [hc]; exact nI_lit hx hk
  unfold F_Pe_isSizeOf
  rw [ht, a1 ty (by omega) 1 (by omega) _ i1, a1 ty (by omega) 2 (by omega) _ i2, a1 ty (by omega) 3 (by omega) _ i3, a1 sz hz 2 (by omega) _ i2, a1 sz hz 6 (by omega) _ i6, a1 sz hz 4 (by omega) _ i4, show (nI sz < (4 : Int32)) = (sz < 4) from propext (by rw [i4]; exact nIlt (by omega) (by omega))]
  refine ⟨fun hd => ?_, fun hd => ?_, fun hd => ?_, fun hd => ?_⟩
  · rw [if_neg (by omega), if_neg (by omega), if_neg (by omega)] at k1 k0
    exact ⟨fun z => k0 z, fun z => k1 z⟩
  · rw [if_pos hd] at k1 k0
    exact ⟨fun z => k0 z, fun z => k1 z⟩
  · rw [if_neg (by omega), if_pos hd] at k1 k0
    exact ⟨fun z => k0 (by omega), fun z => k1 (by omega)⟩
  · rw [if_neg (by omega), if_neg (by omega), if_pos hd] at k1 k0
    exact ⟨fun z => k0 z, fun z => k1 z⟩
theorem P_Pe_lookAtMessage (h : CR μ σ a) (hp : p < 4) (hn : nnS (aPe a p)) (hin : ∀ k, k < (pInb (aPe a p)).length → (pInb (aPe a p))[k]? = some (nI (mOf (pInb (aPe a p)) k)) ∧ mOf (pInb (aPe a p)) k < 256) (hl0 : 0 < (pInb (aPe a p)).length)
    (hfull : (2 ≤ mOf (pInb (aPe a p)) 0 ∧ mOf (pInb (aPe a p)) 0 ≤ 60) → (pInb (aPe a p)).length = mOf (pInb (aPe a p)) 0)
    (kk : ∀ τ, CR μ τ (lookA (stPe a p (sInb (aPe a p) [])) p (mOf (pInb (aPe a p)))) → Q τ) : F_Pe_lookAtMessage NF (pb p) 10 2 σ Q := by
  have hs := h.2.2.2 p hp
  have hpb : 29 ≤ pb p := by unfold pb; omega
  generalize hL : pInb (aPe a p) = L at hin hl0 hfull kk
  obtain ⟨c11, clen, cAr⟩ := hs.2.1
  rw [hL] at c11 clen cAr
  generalize hmm : mOf L = m at hin hfull kk
  have hMg : Mg σ (pb p + 5) L.length m := fun k hk => by
    obtain ⟨q1, q2⟩ := hin k hk
    refine ⟨?_, q2⟩
    rw [cAr.get0 hk]
    exact Option.some.inj ((List.getElem?_eq_getElem hk).symm.trans q1)
  have t0 : (0 : Int32).toNatClampNeg = 0 := by decide
  have t1 : (1 : Int32).toNatClampNeg = 1 := by decide
  have i1 : (1 : Int32) = nI 1 := by decide
  have i2 : (2 : Int32) = nI 2 := by decide
  have i3 : (3 : Int32) = nI 3 := by decide
  have i4 : (4 : Int32) = nI 4 := by decide
  have i60 : (60 : Int32) = nI 60 := by decide
  unfold F_Pe_lookAtMessage
  rw [gp_0_12 h.1 hp, np_5 hp, t0, t1]
  refine ⟨vpl rfl, fun x ex => ⟨vpl rfl, fun y ey σ1 e1 => ?_⟩⟩
  have b0 := (hMg 0 hl0).2
  rw [(hMg 0 hl0).1] at ex
  subst ex
  have f1 : Fp (fun u j => (u = pb p ∧ j = 11) ∨ u = pb p + 5) σ σ1 := by rw [e1]; exact Fp.rf.sI (Or.inl ⟨rfl, rfl⟩)
  have hs1 : RPe σ1 (pb p) (aPre a) (sInb (aPe a p) []) := by
    rw [e1]
    exact hs.sInb (Fp.rf.sI (Or.inl ⟨rfl, rfl⟩)) ⟨I_same, by simp, fun k hk => absurd hk (by simp)⟩
  have hG1 : Gr σ1 := e1 ▸ h.1
  have hc1 : CR μ σ1 (stPe a p (sInb (aPe a p) [])) := h.fp (f1.fr fun u j z => by unfold FPp; omega) hG1 hs1
  have hM1 : Mg σ1 (pb p + 5) L.length m := fun k hk => ⟨by rw [e1, I_ne (by omega)]; exact (hMg k hk).1, (hMg k hk).2⟩
  have hn1 : nnS (aPe (stPe a p (sInb (aPe a p) [])) p) := by
    rw [stPe_at]
    have : pPen (sInb (aPe a p) []) = pPen (aPe a p) := by simp only [sInb, pPen]
    unfold nnS; rw [this]; exact hn
  generalize hb : stPe a p (sInb (aPe a p) []) = b at kk hc1 hn1
  unfold lookA at kk
  rw [i2, i60, nIlt (by omega) (by omega), nIle (by omega) (by omega)]
  refine ⟨fun hlo => ?_, fun hlo => ⟨fun hhi => ?_, fun hhi => ?_⟩⟩
  · rw [if_pos (Or.inl hlo)] at kk
    exact P_end_a hc1 hp kk
  rotate_left
  · rw [if_pos (Or.inr (by omega))] at kk
    exact P_end_a hc1 hp kk
  rw [if_neg (by omega)] at kk
  have hlen := hfull ⟨by omega, hhi⟩
  have b1 := (hMg 1 (by omega)).2
  rw [(hMg 1 (by omega)).1] at ey
  subst ey
  rw [i1, i4, nIlt (by omega) (by omega), nIle (by omega) (by omega)]
  refine ⟨fun hlo1 => ?_, fun hlo1 => ⟨fun hhi1 => ?_, fun hhi1 => ?_⟩⟩
  · rw [if_pos (Or.inl hlo1)] at kk
    exact P_end_a hc1 hp kk
  rotate_left
  · rw [if_pos (Or.inr (by omega))] at kk
    exact P_end_a hc1 hp kk
  rw [if_neg (by omega)] at kk
  refine P_Pe_isSizeOf (by omega) hhi1 (by omega) (fun hz => v_f (by decide) ?_) (fun hz => v_t rfl ?_)
  rotate_left
  · rw [if_neg hz] at kk
    rw [← i1, ← i2]
    exact P_end_a hc1 hp kk
  rw [if_pos hz] at kk
  rw [i3, nI_lit (by omega) (by omega), (hc1.2.2.2 p hp).1.2.2.2.2.2.1]
  refine ⟨fun h3 => ?_, fun h3 => ?_⟩
  rotate_left
  · rw [if_pos h3] at kk
    exact P_Pe_close hG1 hp (hc1.2.2.2 p hp) (fun τ g1 g2 g3 => kk τ (hc1.fp g2 g3 g1))
  rw [if_neg h3] at kk
  rw [← i1, ← i2]
  refine ⟨fun hs1' => ⟨fun hs2 => ?_, fun hs2 => ?_⟩, fun hs1' => ?_⟩
  · rw [if_neg hs1', if_neg hs2] at kk
    refine P_Pe_lookWhenUp (n := m 0) hc1 hp hn1 hhi (fun e => ?_) (by omega) (by rw [← hlen]; exact hM1) rfl kk
    rw [i2, nI_lit (by omega) (by omega)] at e
    rw [if_neg (by omega), if_pos e] at hz
    omega
  · rw [if_neg hs1', if_pos hs2] at kk
    exact P_Pe_lookWhenAgreed hc1 hp kk
  · rw [if_pos hs1'] at kk
    refine P_Pe_lookWhenSent hc1 hp (fun e => ?_) kk
    rw [i1, nI_lit (by omega) (by omega)] at e
    rw [if_pos e] at hz
    rw [hlen, hz] at hM1
    exact hM1
end MS
