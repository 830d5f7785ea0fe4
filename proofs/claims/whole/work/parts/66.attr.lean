/-! attributes -/
def FrV : Nat → Prop := fun u => 11 ≤ u ∧ u ≤ 14
section AT
variable {σ : rs_Mem} {v n : Nat} {m : Nat → Nat} {dn : List Nat}
theorem rtU_high {i : Nat} (h : m i ∉ dn.map m) (hx : ¬ isNm (m i)) : rtU m (dn ++ [i]) = rtU m dn := by
  rw [rtU_app h, if_neg (by omega), if_neg (by omega), if_neg (by omega), if_neg (by omega), if_neg (by omega), if_neg (by omega), if_neg (by omega)]
  rfl
theorem Sn.add {τ : rs_Mem} {i : Nat} (h : Sn σ m dn) (e : τ = rs_sI σ 14 (m i) 1) : Sn τ m (dn ++ [i]) := fun x hx => by
  rw [e]
  by_cases ex : x = m i
  · subst ex
    rw [I_same, decide_eq_true (by simp)]; rfl
  · rw [I_nk ex, h x hx]
    have : (x ∈ (dn ++ [i]).map m) = (x ∈ dn.map m) := by
      apply propext
      simp only [List.map_append, List.map_cons, List.map_nil, List.mem_append, List.mem_singleton]
      exact ⟨fun z => z.resolve_right ex, Or.inl⟩
    simp only [this]
theorem P_Up_attributeFault {i : Nat} {Q : Int32 → rs_Mem → Prop} (hG : Gr σ) (hM : Ms σ v n m) (hS : Sn σ m dn) (hr : RRt σ 11 (rtU m dn)) (hi : i + 2 + m (i + 1) ≤ n)
    (k0 : attFlt m dn i = 0 → ∀ τ, Sn τ m (dn ++ [i]) → RRt τ 11 (rtU m (dn ++ [i])) → Fr FrV σ τ → (∀ u j, rs_R τ u j = rs_R σ u j) → Q 0 τ)
    (k1 : attFlt m dn i ≠ 0 → ∀ τ, Fr FrV σ τ → (∀ u j, rs_R τ u j = rs_R σ u j) → Q (attFlt m dn i) τ) : F_Up_attributeFault NF 10 (nI (m i)) (nI (m (i + 1))) (nI (i + 2)) σ Q := by
  have hM2 := hM
  obtain ⟨m1, m2, m3, m4, m5⟩ := hM2
  have hx := (m5 i (by omega)).2
  have hLb := (m5 (i + 1) (by omega)).2
  have ht : (nI (m i)).toInt = (m i : Int) := nI_toInt (by omega)
  have e128 : (128 : Int32) = nI 128 := by decide
  unfold F_Up_attributeFault
  rw [gr_10_1 hG, nf_14, nIc (by omega), hS _ hx]
  refine ⟨vpn hx (by omega), fun hz => ⟨vpn hx (by omega), fun σ1 e1 => ?_⟩, fun hz => ?_⟩
  rotate_left
  · have hin : m i ∈ dn.map m := by
      by_cases e : m i ∈ dn.map m
      · exact e
      · rw [decide_eq_false e] at hz; exact absurd rfl hz
    have ea : attFlt m dn i = 1 := by unfold attFlt; rw [if_pos hin]
    rw [ea] at k1
    exact k1 (by decide) σ Fr.rf (fun _ _ => rfl)
  have hnin : m i ∉ dn.map m := of_decide_eq_false (b2i_ne.mp hz)
  have f1 : Fr FrV σ σ1 := by rw [e1]; exact Fr.rf.sI (by unfold FrV; omega)
  have r1 : ∀ u j, rs_R σ1 u j = rs_R σ u j := fun u j => by rw [e1]; rfl
  have hG1 : Gr σ1 := Gr_of hG r1
  have hS1 : Sn σ1 m (dn ++ [i]) := hS.add e1
  have g1 : Fr (fun u => u = 14) σ σ1 := by rw [e1]; exact Fr.sI (A := fun u => u = 14) Fr.rf rfl
  have hr1 : RRt σ1 11 (rtU m dn) := hr.fr g1 (by omega) (by omega) (by omega)
  have hM1 : Ms σ1 v n m := hM.fr g1 (by omega) (r1 _ _)
  rw [e128, nIlt (by omega) (by omega)]
  refine ⟨fun hlt => ?_, fun hge => ?_⟩
  rotate_left
  · have ea : attFlt m dn i = 0 := by unfold attFlt; rw [if_neg hnin, if_pos (by omega)]
    exact k0 ea σ1 hS1 (by rw [rtU_high hnin (by unfold isNm; omega)]; exact hr1) f1 r1
  have ea : attFlt m dn i = if ¬ isNm (m i) then 2 else badV m i := by unfold attFlt; rw [if_neg hnin, if_neg (by omega)]
  have no : ¬ isNm (m i) → Q 2 σ1 := fun hn => by
    rw [if_pos hn] at ea
    rw [ea] at k1
    exact k1 (by decide) σ1 f1 r1
  have bad5 : isNm (m i) → badV m i = 5 → Q 5 σ1 := fun hn hb => by
    rw [if_neg (fun z => z hn), hb] at ea
    rw [ea] at k1
    exact k1 (by decide) σ1 f1 r1
  have i1 : (1 : Int32) = nI 1 := by decide
  have vals : (m i = 1 ∨ m i = 3 ∨ m i = 4 ∨ m i = 5 ∨ m i = 9) → ((nI (m (i + 1)) = (1 : Int32) → (vp_in (nI (i + 2)) (NF (rs_R σ1 10 2)) ∧ (F_Up_valueFault NF 10 (nI (m i)) (rs_I σ1 (rs_R σ1 10 2) (nI (i + 2)).toNatClampNeg) σ1 (fun x59 σ58 => (Q x59 σ58))))) ∧ (¬ (nI (m (i + 1)) = (1 : Int32)) → (Q (5 : Int32) σ1))) := fun hc => by
    have hnm : isNm (m i) := by unfold isNm; omega
    rw [i1, nI_lit (by omega) (by omega)]
    refine ⟨fun hL => ?_, fun hL => bad5 hnm (by unfold badV; rw [if_neg (by omega), if_pos hL])⟩
    rw [hM1.1, m3, nIc (by omega), (hM1.2.2.2.2 (i + 2) (by omega)).1]
    refine ⟨vpn (by omega) (by omega), P_Up_valueFault hG1 (m5 (i + 2) (by omega)).2 hr1 hc (fun τ f hf t1 t2 t3 => ?_)⟩
    have hbv : badV m i = f := by
      unfold badV
      rw [if_neg (by omega), if_neg (fun z => z hL), hf]
    rw [if_neg (fun z => z hnm), hbv] at ea
    have f2 : Fr FrV σ τ := f1.tr (t2.mono fun u z => by unfold FrV; omega)
    have r2 : ∀ u j, rs_R τ u j = rs_R σ u j := fun u j => (t3 u j).trans (r1 u j)
    by_cases hf0 : f = 0
    · rw [hf0] at ea ⊢
      refine k0 ea τ (hS1.fr t2 (by omega)) ?_ f2 r2
      rw [rtU_app hnin, if_neg (c := m i = 2) (by omega), if_neg (c := m i = 10) (by omega)]
      exact t1
    · rw [← ea]
      exact k1 (by rw [ea]; exact hf0) τ f2 r2
  have e8 : (8 : Int32) = nI 8 := by decide
  have e6 : (6 : Int32) = nI 6 := by decide
  refine ⟨fun hd => no (by rw [ht] at hd; unfold isNm; omega), fun z => vals ?_, fun z σ2 e2 => ?_, fun z => vals ?_, fun z => vals ?_, fun z => vals ?_, fun z => no ?_, fun z => no ?_, fun z => no ?_, fun z => vals ?_, fun z σ2 e2 => ?_⟩
  · rw [show (1 : Int32) = nI 1 from by decide, nI_lit (by omega) (by omega)] at z; omega
  · rw [show (2 : Int32) = nI 2 from by decide, nI_lit (by omega) (by omega)] at z
    rw [gr_10_0 hG1] at e2
    have r2 : ∀ u j, rs_R σ2 u j = rs_R σ u j := fun u j => by rw [e2]; exact r1 u j
    have hG2 := Gr_of hG r2
    have g2 : Fr (fun u => u = 11) σ1 σ2 := by rw [e2]; exact Fr.sI (A := fun u => u = 11) Fr.rf rfl
    have hM2 : Ms σ2 v n m := hM1.fr g2 (by omega) ((r2 _ _).trans (r1 _ _).symm)
    have hS2 := hS1.fr g2 (by omega)
    have f2 : Fr FrV σ σ2 := f1.tr (g2.mono fun u z => by unfold FrV; omega)
    rw [gr_10_0 hG2, gr_11_2 hG2]
    have hnm : isNm (m i) := by unfold isNm; omega
    rw [if_neg (fun z => z hnm)] at ea
    have hbv : badV m i = (if 8 < m (i + 1) then 5 else if ∀ j, j < m (i + 1) → numN (m (i + 2 + j)) then 0 else 11) := by
      unfold badV
      rw [if_pos (Or.inl z), if_pos (c := m i = 2) z]
    rw [hbv] at ea
    refine P_Up_listFault hG2 hM2 (Or.inl rfl) (by omega) (fun hl hall τ t1 t2 t3 => ?_) (fun hl hall τ t2 t3 => ?_) (fun hl => ?_)
    · rw [nf_12] at hl
      rw [if_neg (by omega), if_pos hall] at ea
      refine k0 ea τ (hS2.fr t2 (by omega)) ?_ (f2.tr (t2.mono fun u z => by unfold FrV; omega)) (fun u j => (t3 u j).trans (r2 u j))
      rw [rtU_app hnin, if_neg (c := m i = 1) (by omega), if_neg (c := m i = 3) (by omega), if_neg (c := m i = 4) (by omega), if_neg (c := m i = 5) (by omega), if_neg (c := m i = 9) (by omega), if_pos z, if_neg (c := m i = 10) (by omega)]
      obtain ⟨a, b, c, d, e, g, i', j, k, l, mm⟩ := hr1
      have q11 : ∀ j, j ≠ 1 → rs_I τ 11 j = rs_I σ1 11 j := fun j hj => (t2.I (by omega) _).trans (by rw [e2, I_nk hj])
      refine ⟨(q11 0 (by omega)).trans a, ?_, (q11 3 (by omega)).trans c, (q11 4 (by omega)).trans d, (q11 5 (by omega)).trans e, (q11 6 (by omega)).trans g, (q11 7 (by omega)).trans i', t1, (k.fr g2 (by omega)).fr t2 (by omega), ?_, mm⟩
      · rw [t2.I (by omega), e2, I_same]
        show _ = nI (sl m (i + 2) (m (i + 1))).length
        rw [sl_len, e8, if_neg (fun z => by rw [nIlt (by omega) (by omega)] at z; omega)]
      · show (sl m (i + 2) (m (i + 1))).length ≤ 8
        rw [sl_len]; exact hl
    · rw [nf_12] at hl
      rw [if_neg (by omega), if_neg hall] at ea
      rw [ea] at k1
      exact k1 (by decide) τ (f2.tr (t2.mono fun u z => by unfold FrV; omega)) (fun u j => (t3 u j).trans (r2 u j))
    · rw [nf_12] at hl
      rw [if_pos (by omega)] at ea
      rw [ea] at k1
      exact k1 (by decide) σ2 f2 r2
  · rw [show (3 : Int32) = nI 3 from by decide, nI_lit (by omega) (by omega)] at z; omega
  · rw [show (4 : Int32) = nI 4 from by decide, nI_lit (by omega) (by omega)] at z; omega
  · rw [show (5 : Int32) = nI 5 from by decide, nI_lit (by omega) (by omega)] at z; omega
  · rw [e6, nI_lit (by omega) (by omega)] at z; unfold isNm; omega
  · rw [show (7 : Int32) = nI 7 from by decide, nI_lit (by omega) (by omega)] at z; unfold isNm; omega
  · rw [e8, nI_lit (by omega) (by omega)] at z; unfold isNm; omega
  · rw [show (9 : Int32) = nI 9 from by decide, nI_lit (by omega) (by omega)] at z; omega
  · rw [show (10 : Int32) = nI 10 from by decide, nI_lit (by omega) (by omega)] at z
    rw [gr_10_0 hG1] at e2
    have r2 : ∀ u j, rs_R σ2 u j = rs_R σ u j := fun u j => by rw [e2]; exact r1 u j
    have hG2 := Gr_of hG r2
    have g2 : Fr (fun u => u = 11) σ1 σ2 := by rw [e2]; exact Fr.sI (A := fun u => u = 11) Fr.rf rfl
    have hM2 : Ms σ2 v n m := hM1.fr g2 (by omega) ((r2 _ _).trans (r1 _ _).symm)
    have hS2 := hS1.fr g2 (by omega)
    have f2 : Fr FrV σ σ2 := f1.tr (g2.mono fun u z => by unfold FrV; omega)
    rw [gr_10_0 hG2, gr_11_8 hG2]
    have hnm : isNm (m i) := by unfold isNm; omega
    rw [if_neg (fun z => z hnm)] at ea
    have hbv : badV m i = (if 6 < m (i + 1) then 5 else if ∀ j, j < m (i + 1) → numN (m (i + 2 + j)) then 0 else 11) := by
      unfold badV
      rw [if_pos (Or.inr z), if_neg (c := m i = 2) (by omega)]
    rw [hbv] at ea
    refine P_Up_listFault hG2 hM2 (Or.inr rfl) (by omega) (fun hl hall τ t1 t2 t3 => ?_) (fun hl hall τ t2 t3 => ?_) (fun hl => ?_)
    · rw [nf_13] at hl
      rw [if_neg (by omega), if_pos hall] at ea
      refine k0 ea τ (hS2.fr t2 (by omega)) ?_ (f2.tr (t2.mono fun u z => by unfold FrV; omega)) (fun u j => (t3 u j).trans (r2 u j))
      rw [rtU_app hnin, if_neg (c := m i = 1) (by omega), if_neg (c := m i = 3) (by omega), if_neg (c := m i = 4) (by omega), if_neg (c := m i = 5) (by omega), if_neg (c := m i = 9) (by omega), if_neg (c := m i = 2) (by omega), if_pos z]
      obtain ⟨a, b, c, d, e, g, i', j, k, l, mm⟩ := hr1
      have q11 : ∀ j, j ≠ 7 → rs_I τ 11 j = rs_I σ1 11 j := fun j hj => (t2.I (by omega) _).trans (by rw [e2, I_nk hj])
      refine ⟨(q11 0 (by omega)).trans a, (q11 1 (by omega)).trans b, (q11 3 (by omega)).trans c, (q11 4 (by omega)).trans d, (q11 5 (by omega)).trans e, (q11 6 (by omega)).trans g, ?_, (j.fr g2 (by omega)).fr t2 (by omega), t1, l, ?_⟩
      · rw [t2.I (by omega), e2, I_same]
        show _ = nI (sl m (i + 2) (m (i + 1))).length
        rw [sl_len, e6, if_neg (fun z => by rw [nIlt (by omega) (by omega)] at z; omega)]
      · show (sl m (i + 2) (m (i + 1))).length ≤ 6
        rw [sl_len]; exact hl
    · rw [nf_13] at hl
      rw [if_neg (by omega), if_neg hall] at ea
      rw [ea] at k1
      exact k1 (by decide) τ (f2.tr (t2.mono fun u z => by unfold FrV; omega)) (fun u j => (t3 u j).trans (r2 u j))
    · rw [nf_13] at hl
      rw [if_pos (by omega)] at ea
      rw [ea] at k1
      exact k1 (by decide) σ2 f2 r2
end AT
