/-! the model's calls -/
def Lx (σ τ : rs_Mem) : Prop := Fr (fun u => 281 ≤ u ∧ u < 320) σ τ
def ResU (σ : rs_Mem) (r : Int32 × Ab) (Q : rs_Mem → Prop) : Prop := ∀ τ, MR τ τ r.2 → Lx σ τ → rs_I τ 281 0 = r.1 → Q τ
def ResB (σ : rs_Mem) (r : Int32 × Int64 × Ab) (Q : Int32 → rs_Mem → Prop) : Prop := ∀ τ b, MR τ τ r.2.2 → Lx σ τ → rs_I τ 281 0 = r.1 → (r.1 = 0 → (b = 0 → r.2.1 = 0) ∧ (b ≠ 0 → r.2.1 = 1)) → Q b τ
def ResN (σ : rs_Mem) (r : Int32 × Int64 × Ab) (Q : Int32 → rs_Mem → Prop) : Prop := ∀ τ b, MR τ τ r.2.2 → Lx σ τ → rs_I τ 281 0 = r.1 → (r.1 = 0 → r.2.1 = b.toInt64) → Q b τ
section MCA
variable {μ σ τ σ1 : rs_Mem} {a b : Ab} {p : Nat} {s : Ps} {c : Int32}
theorem MR.self (h : MR μ σ a) : MR σ σ a := ⟨h.1, h.2.1, ⟨h.2.2.1.1, Fp.rf⟩, h.2.2.2⟩
theorem MR.code (h : MR μ σ a) (e : σ1 = rs_sI σ 281 0 c) : MR σ1 σ1 a := by
  have f : Fp (fun u j => u = 281 ∧ j = 0) σ σ1 := by rw [e]; exact Fp.rf.sI ⟨rfl, rfl⟩
  exact ⟨by rw [e]; exact h.1, h.2.1.fp f (by omega) (fun k => by omega) (fun k => by omega), ⟨h.2.2.1.1.fp f (fun u j q1 q2 q3 q4 q5 => by omega), Fp.rf⟩, fun q hq => (h.2.2.2 q hq).fp f (fun u j z w => by unfold InP at z; omega)⟩
theorem Lo.lx (h : Lo σ τ) : Lx σ τ := h.fr fun u j z => ⟨z.1, z.2.1⟩
theorem MR.lx (h : MR σ1 τ b) (e : σ1 = rs_sI σ 281 0 c) : Lx σ τ := Fr.tr (τ := σ1) (by rw [e]; exact Fr.rf.sI (by omega)) h.2.2.1.2.lx
theorem MR.cd (h : MR σ1 τ b) (e : σ1 = rs_sI σ 281 0 c) : rs_I τ 281 0 = c := (h.2.2.1.2.I (by omega)).trans (by rw [e]; exact I_same)
theorem doneU {r : Int32 × Ab} {Q : rs_Mem → Prop} (h : MR σ1 τ b) (e : σ1 = rs_sI σ 281 0 c) (h1 : r.1 = c) (h2 : r.2 = b) (kk : ResU σ r Q) : Q τ := kk τ (h2 ▸ h.self) (h.lx e) ((h.cd e).trans h1.symm)
theorem doneB {r : Int32 × Int64 × Ab} {v : Int32} {Q : Int32 → rs_Mem → Prop} (h : MR σ1 τ b) (e : σ1 = rs_sI σ 281 0 c) (h1 : r.1 = c) (h2 : r.2.2 = b) (h3 : r.1 = 0 → (v = 0 → r.2.1 = 0) ∧ (v ≠ 0 → r.2.1 = 1)) (kk : ResB σ r Q) : Q v τ := kk τ v (h2 ▸ h.self) (h.lx e) ((h.cd e).trans h1.symm) h3
theorem doneN {r : Int32 × Int64 × Ab} {v : Int32} {Q : Int32 → rs_Mem → Prop} (h : MR σ1 τ b) (e : σ1 = rs_sI σ 281 0 c) (h1 : r.1 = c) (h2 : r.2.2 = b) (h3 : r.1 = 0 → r.2.1 = v.toInt64) (kk : ResN σ r Q) : Q v τ := kk τ v (h2 ▸ h.self) (h.lx e) ((h.cd e).trans h1.symm) h3
theorem M_tellU {r : Int32 × Ab} {Q : rs_Mem → Prop} (h : MR σ1 τ b) (e : σ1 = rs_sI σ 281 0 c) (hA : AI0 b) (h1 : r.1 = c) (h2 : r.2 = tAll 5 b) (kk : ResU σ r Q) : F_Mo_tell NF 281 τ (fun ρ => Q ρ) := P_Mo_tell h (AI0_AW hA) (fun ρ g => doneU g e h1 h2 kk)
theorem MPe.sRul {l : List Ru} (h : MPe σ p s) (f : Fp (fun u j => (u = 292 ∧ j = p) ∨ (293 ≤ u ∧ u ≤ 295 ∧ 3 * p ≤ j ∧ j < 3 * p + 3)) σ τ) (g : MRu τ p l) : MPe τ p (sRul s l) := by
  obtain ⟨⟨a1, a2, a3, a4, a5, a6, a7, a8, a9, a10⟩, -, ⟨c1, c2, c3⟩, ⟨d1, d2, d3⟩, e, t⟩ := h
  have n : ∀ u j, (u < 292 ∨ 295 < u) → rs_I τ u j = rs_I σ u j := fun u j q1 => f.I (by omega)
  refine ⟨⟨(n _ _ (by omega)).trans a1, (n _ _ (by omega)).trans a2, (n _ _ (by omega)).trans a3, (n _ _ (by omega)).trans a4, (n _ _ (by omega)).trans a5, (n _ _ (by omega)).trans a6, (n _ _ (by omega)).trans a7, (n _ _ (by omega)).trans a8, (n _ _ (by omega)).trans a9, (n _ _ (by omega)).trans a10⟩, g, ⟨(n _ _ (by omega)).trans c1, c2, fun k hk => (n _ _ (by omega)).trans (c3 k hk)⟩, ⟨(n _ _ (by omega)).trans d1, d2, fun k hk => (n _ _ (by omega)).trans (d3 k hk)⟩, fun j hj => ?_, fun j hj => ?_⟩
  · obtain ⟨x, y, z, w⟩ := e j hj
    exact ⟨(n _ _ (by omega)).trans x, fun rt q => (y rt q).fp f (fun u q => by omega) (fun j q1 q2 => by omega) (fun j q1 q2 => by omega), (f.D (by omega)).trans z, (n _ _ (by omega)).trans w⟩
  · obtain ⟨x, y⟩ := t j hj
    refine ⟨fun q => (n _ _ (by omega)).trans (x q), fun t q => ?_⟩
    obtain ⟨y1, y2, y3⟩ := y t q
    exact ⟨(n _ _ (by omega)).trans y1, fun i hi => (n _ _ (by omega)).trans (y2 i hi), y3⟩
theorem MPe.sInb {l : List Int32} (h : MPe σ p s) (f : Fp (fun u j => (u = 296 ∧ 60 * p ≤ j ∧ j < 60 * p + 60) ∨ (u = 297 ∧ j = p)) σ τ) (g : MIb τ p l) : MPe τ p (sInb s l) := by
  obtain ⟨⟨a1, a2, a3, a4, a5, a6, a7, a8, a9, a10⟩, ⟨b1, b2, b3⟩, -, ⟨d1, d2, d3⟩, e, t⟩ := h
  have n : ∀ u j, (u < 296 ∨ 297 < u) → rs_I τ u j = rs_I σ u j := fun u j q1 => f.I (by omega)
  refine ⟨⟨(n _ _ (by omega)).trans a1, (n _ _ (by omega)).trans a2, (n _ _ (by omega)).trans a3, (n _ _ (by omega)).trans a4, (n _ _ (by omega)).trans a5, (n _ _ (by omega)).trans a6, (n _ _ (by omega)).trans a7, (n _ _ (by omega)).trans a8, (n _ _ (by omega)).trans a9, (n _ _ (by omega)).trans a10⟩, ⟨(n _ _ (by omega)).trans b1, b2, fun k hk => ⟨(n _ _ (by omega)).trans (b3 k hk).1, (n _ _ (by omega)).trans (b3 k hk).2.1, (n _ _ (by omega)).trans (b3 k hk).2.2⟩⟩, g, ⟨(n _ _ (by omega)).trans d1, d2, fun k hk => (n _ _ (by omega)).trans (d3 k hk)⟩, fun j hj => ?_, fun j hj => ?_⟩
  · obtain ⟨x, y, z, w⟩ := e j hj
    exact ⟨(n _ _ (by omega)).trans x, fun rt q => (y rt q).fp f (fun u q => by omega) (fun j q1 q2 => by omega) (fun j q1 q2 => by omega), (f.D (by omega)).trans z, (n _ _ (by omega)).trans w⟩
  · obtain ⟨x, y⟩ := t j hj
    refine ⟨fun q => (n _ _ (by omega)).trans (x q), fun t q => ?_⟩
    obtain ⟨y1, y2, y3⟩ := y t q
    exact ⟨(n _ _ (by omega)).trans y1, fun i hi => (n _ _ (by omega)).trans (y2 i hi), y3⟩
/-- the invariants behind the calls that set things -/
theorem AJ_peer {x y z : Int32} (h : AJ a) : AJ (opPeer a x y z).2 ∧ ((opPeer a x y z).1 = 0 → tAll 5 (opPeer a x y z).2 = (opPeer a x y z).2) := by
  unfold opPeer
  split
  · exact ⟨h, fun q => absurd q n10⟩
  · rename_i hg
    have hg := Classical.not_not.mp hg
    obtain ⟨p, hp, rfl⟩ := okP_of hg.1
    rw [tN_nI (by omega)]
    split
    · exact ⟨h, fun q => absurd q n20⟩
    · rename_i h0
      have h0 := Classical.not_not.mp h0
      have hs := h.1.1.2.2 p hp
      have hno := hs.2.2.2.2.1 (by rw [h0]; decide)
      obtain ⟨v, hv⟩ : ∃ v, v = (if y = 0 then z else 100) := ⟨_, rfl⟩
      have hv0 : v ≠ 0 := by
        rw [hv]
        split
        · rename_i e
          have := (hg.2.2.2 e).1.1
          intro q; rw [q] at this; exact absurd this (by decide)
        · decide
      rw [← hv]
      have e2 : pInc (sNet (sRole (aPe a p) y) v) = pInc (aPe a p) := by simp only [pInc, sNet, sRole]
      have e3 : pSt (sNet (sRole (aPe a p) y) v) = pSt (aPe a p) := by simp only [pSt, sNet, sRole]
      have hok : okS (sNet (sRole (aPe a p) y) v) := by
        refine ⟨?_, okT_of hs.2.1 (by simp only [pHo, sNet, sRole]) e3 (by simp only [pHt, sNet, sRole]) (by simp only [pKt, sNet, sRole]) (by simp only [pId, sNet, sRole]), okI_of hs.2.2.1 (by simp only [pInb, sNet, sRole]), okO_of hs.2.2.2.1 (by simp only [pOut, sNet, sRole]), okR_none (fun k => by rw [e2]; exact hno k)⟩
        have f1 : pPad (sNet (sRole (aPe a p) y) v) = pPad (aPe a p) := by simp only [pPad, sNet, sRole]
        have f2 : pMl (sNet (sRole (aPe a p) y) v) = pMl (aPe a p) := by simp only [pMl, sNet, sRole]
        have f3 : pMa (sNet (sRole (aPe a p) y) v) = pMa (aPe a p) := by simp only [pMa, sNet, sRole]
        have f4 : pRul (sNet (sRole (aPe a p) y) v) = pRul (aPe a p) := by simp only [pRul, sNet, sRole]
        have f5 : pPen (sNet (sRole (aPe a p) y) v) = pPen (aPe a p) := by simp only [pPen, sNet, sRole]
        have f6 : pNet (sNet (sRole (aPe a p) y) v) = v := by simp only [pNet, sNet]
        unfold okC nnS
        rw [f1, f2, f3, f4, f5, f6]
        exact ⟨hs.1.1, hs.1.2.1, hs.1.2.2.1, hs.1.2.2.2.1, hv0⟩
      have hu : UTD (stPe a p (sNet (sRole (aPe a p) y) v)) := UTD_pe h.1.2 hp (fun k => Or.inr ⟨hno k, by rw [stPe_at, e2]; exact hno k⟩) (fun q => by rw [e3, h0] at q; exact absurd q (by decide))
      exact ⟨⟨⟨AI0_pe h.1.1 hok, hu⟩, h.2⟩, fun _ => tAll_id hu⟩
theorem AI0_rule {p : Nat} {y z u : Int32} (h : AI0 a) (hp : p < 4) (hpf : isPfx y z) (h1 : 0 ≤ u) (h2 : u ≤ 200) : AI0 (stPe a p (sRul (aPe a p) (pRul (aPe a p) ++ [(y, z, u)]))) := by
  have hs := h.2.2 p hp
  refine AI0_pe h ⟨?_, okT_of hs.2.1 (by simp only [pHo, sRul]) (by simp only [pSt, sRul]) (by simp only [pHt, sRul]) (by simp only [pKt, sRul]) (by simp only [pId, sRul]), okI_of hs.2.2.1 (by simp only [pInb, sRul]), okO_of hs.2.2.2.1 (by simp only [pOut, sRul]), okR_of hs.2.2.2.2 (by simp only [pInc, sRul]) (by simp only [pRole, sRul]) ?_⟩
  · have f1 : pPad (sRul (aPe a p) (pRul (aPe a p) ++ [(y, z, u)])) = pPad (aPe a p) := by simp only [pPad, sRul]
    have f2 : pMl (sRul (aPe a p) (pRul (aPe a p) ++ [(y, z, u)])) = pMl (aPe a p) := by simp only [pMl, sRul]
    have f3 : pMa (sRul (aPe a p) (pRul (aPe a p) ++ [(y, z, u)])) = pMa (aPe a p) := by simp only [pMa, sRul]
    have f4 : pRul (sRul (aPe a p) (pRul (aPe a p) ++ [(y, z, u)])) = pRul (aPe a p) ++ [(y, z, u)] := by simp only [pRul, sRul]
    have f5 : pPen (sRul (aPe a p) (pRul (aPe a p) ++ [(y, z, u)])) = pPen (aPe a p) := by simp only [pPen, sRul]
    have f6 : pNet (sRul (aPe a p) (pRul (aPe a p) ++ [(y, z, u)])) = pNet (aPe a p) := by simp only [pNet, sRul]
    unfold okC nnS
    rw [f1, f2, f3, f4, f5, f6]
    refine ⟨hs.1.1, hs.1.2.1, fun q hq => ?_, hs.1.2.2.2.1, hs.1.2.2.2.2⟩
    rcases List.mem_append.mp hq with q1 | q1
    · exact hs.1.2.2.1 q q1
    · rw [List.mem_singleton.mp q1]; exact ⟨hpf, h1, h2⟩
  · have e3 : pSt (sRul (aPe a p) (pRul (aPe a p) ++ [(y, z, u)])) = pSt (aPe a p) := by simp only [pSt, sRul]
    rw [e3]; exact hs.2.2.2.2.1
theorem AI0_unrule {p : Nat} (h : AI0 a) (hp : p < 4) : AI0 (stPe a p (sRul (aPe a p) [])) := by
  have hs := h.2.2 p hp
  refine AI0_pe h ⟨?_, okT_of hs.2.1 (by simp only [pHo, sRul]) (by simp only [pSt, sRul]) (by simp only [pHt, sRul]) (by simp only [pKt, sRul]) (by simp only [pId, sRul]), okI_of hs.2.2.1 (by simp only [pInb, sRul]), okO_of hs.2.2.2.1 (by simp only [pOut, sRul]), okR_of hs.2.2.2.2 (by simp only [pInc, sRul]) (by simp only [pRole, sRul]) ?_⟩
  · have f1 : pPad (sRul (aPe a p) []) = pPad (aPe a p) := by simp only [pPad, sRul]
    have f2 : pMl (sRul (aPe a p) []) = pMl (aPe a p) := by simp only [pMl, sRul]
    have f3 : pMa (sRul (aPe a p) []) = pMa (aPe a p) := by simp only [pMa, sRul]
    have f4 : pRul (sRul (aPe a p) []) = [] := by simp only [pRul, sRul]
    have f5 : pPen (sRul (aPe a p) []) = pPen (aPe a p) := by simp only [pPen, sRul]
    have f6 : pNet (sRul (aPe a p) []) = pNet (aPe a p) := by simp only [pNet, sRul]
    unfold okC nnS
    rw [f1, f2, f3, f4, f5, f6]
    exact ⟨hs.1.1, hs.1.2.1, (fun q hq => by cases hq), hs.1.2.2.2.1, hs.1.2.2.2.2⟩
  · have e3 : pSt (sRul (aPe a p) []) = pSt (aPe a p) := by simp only [pSt, sRul]
    rw [e3]; exact hs.2.2.2.2.1
theorem AI0_outb {p : Nat} {y z u : Int32} (h : AI0 a) (hp : p < 4) (h1 : 0 ≤ y) (h2 : y ≤ 3) (h3 : z = -1 ∨ isPfx z u) : AI0 (stPe a p (sMa (sMl (sPad (aPe a p) y) z) u)) := by
  have hs := h.2.2 p hp
  refine AI0_pe h ⟨?_, okT_of hs.2.1 (by simp only [pHo, sMa, sMl, sPad]) (by simp only [pSt, sMa, sMl, sPad]) (by simp only [pHt, sMa, sMl, sPad]) (by simp only [pKt, sMa, sMl, sPad]) (by simp only [pId, sMa, sMl, sPad]), okI_of hs.2.2.1 (by simp only [pInb, sMa, sMl, sPad]), okO_of hs.2.2.2.1 (by simp only [pOut, sMa, sMl, sPad]), okR_of hs.2.2.2.2 (by simp only [pInc, sMa, sMl, sPad]) (by simp only [pRole, sMa, sMl, sPad]) ?_⟩
  · have f1 : pPad (sMa (sMl (sPad (aPe a p) y) z) u) = y := by simp only [pPad, sMa, sMl, sPad]
    have f2 : pMl (sMa (sMl (sPad (aPe a p) y) z) u) = z := by simp only [pMl, sMa, sMl, sPad]
    have f3 : pMa (sMa (sMl (sPad (aPe a p) y) z) u) = u := by simp only [pMa, sMa, sMl, sPad]
    have f4 : pRul (sMa (sMl (sPad (aPe a p) y) z) u) = pRul (aPe a p) := by simp only [pRul, sMa, sMl, sPad]
    have f5 : pPen (sMa (sMl (sPad (aPe a p) y) z) u) = pPen (aPe a p) := by simp only [pPen, sMa, sMl, sPad]
    have f6 : pNet (sMa (sMl (sPad (aPe a p) y) z) u) = pNet (aPe a p) := by simp only [pNet, sMa, sMl, sPad]
    unfold okC nnS
    rw [f1, f2, f3, f4, f5, f6]
    obtain ⟨n, hn, rfl⟩ := nI_of2 (n := 3) (x := y) (M := 3) (by decide) (by grind) h2
    exact ⟨⟨n, by omega, rfl⟩, h3, hs.1.2.2.1, hs.1.2.2.2.1, hs.1.2.2.2.2⟩
  · have e3 : pSt (sMa (sMl (sPad (aPe a p) y) z) u) = pSt (aPe a p) := by simp only [pSt, sMa, sMl, sPad]
    rw [e3]; exact hs.2.2.2.2.1
end MCA
