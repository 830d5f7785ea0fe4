/-! the model: barred routes -/
section MB
variable {σ : rs_Mem} {r : Nat} {rt : Rt} {ext : Bool} {Q : Int32 → rs_Mem → Prop}
theorem P_Mo_isBarred (hG : Gr σ) (hr60 : r ≤ 60) (h : MRt σ r rt ext) (kk : Q (b2i (decide (rBar rt))) σ) : F_Mo_isBarred NF 281 (nI r) σ Q := by
  obtain ⟨a1, a2, a3, a4, a5, a6, a7, a8, a9, a10, a11⟩ := h
  have e6 : (6 : Int32) = nI 6 := by decide
  have e8 : (8 : Int32) = nI 8 := by decide
  have v61 : vp_in (nI r) 61 := vpn (by omega) (by omega)
  have b1 : ∀ b : Bool, b2i b &&& 1 = b2i b := by decide
  have key2 : ∀ d i (b : Bool), i + d = (rtC rt).length → (b = true ↔ rtS rt = 7 ∨ 100 ∈ rtA rt ∨ 7 ∈ (rtC rt).take i) → L_Mo_isBarred_63 NF Q (d + 1) 281 (nI r) (b2i b) (nI i) σ := by
    intro d
    induction d with
    | zero =>
      intro i b hi hb
      have e : i = (rtC rt).length := by omega
      subst e
      rw [List.take_length] at hb
      refine ⟨by rw [gr_281_32 hG, nf_311]; exact v61, w_t (by rw [gr_281_32 hG, nIc (by omega), a8]; exact (nIle (by omega) (by omega)).mpr (by omega)) ⟨b1 b, ?_⟩⟩
      have : decide (rBar rt) = b := by
        cases b with
        | true => exact decide_eq_true (hb.mp rfl)
        | false => exact decide_eq_false (fun z => by have := hb.mpr z; cases this)
      rw [this] at kk; exact kk
    | succ d ih =>
      intro i b hi hb
      refine ⟨by rw [gr_281_32 hG, nf_311]; exact v61, w_f (fun z => by rw [gr_281_32 hG, nIc (by omega), a8] at z; have := (nIle (by omega) (by omega)).mp z; omega) ?_⟩
      have htk : (rtC rt).take (i + 1) = (rtC rt).take i ++ [(rtC rt)[i]'(by omega)] := List.take_succ_eq_append_getElem (by omega)
      have hm : 7 ∈ (rtC rt).take (i + 1) ↔ 7 ∈ (rtC rt).take i ∨ (rtC rt)[i]'(by omega) = 7 := by
        rw [htk, List.mem_append, List.mem_singleton]
        exact ⟨fun z => z.imp id Eq.symm, fun z => z.imp id Eq.symm⟩
      have yes : (b = true ∨ (rtC rt)[i]'(by omega) = 7) → L_Mo_isBarred_63 NF Q (d + 1) 281 (nI r) (b2i true) (nI (i + 1)) σ := fun hy => by
        refine ih (i + 1) true (by omega) ⟨fun _ => ?_, fun _ => rfl⟩
        rcases hy with hy | hy
        · rcases hb.mp hy with z | z | z
          · exact Or.inl z
          · exact Or.inr (Or.inl z)
          · exact Or.inr (Or.inr (hm.mpr (Or.inl z)))
        · exact Or.inr (Or.inr (hm.mpr (Or.inr hy)))
      cases b with
      | true =>
        refine v_f (by decide) (fun x ex => ?_)
        subst ex
        rw [nI_1]
        exact yes (Or.inl rfl)
      | false =>
        refine v_t rfl ?_
        rw [gr_281_33 hG, nf_312, e6, nI_mul, nI_add, nIc (n := 6 * r + i) (by omega), a9 i (by omega)]
        refine ⟨vpn (by omega) (by omega), fun hne x ex => ?_, fun he x ex => ?_⟩
        · subst ex
          rw [nI_1]
          refine ih (i + 1) false (by omega) ⟨(fun z => by cases z), fun z => ?_⟩
          rcases z with z | z | z
          · exact hb.mpr (Or.inl z)
          · exact hb.mpr (Or.inr (Or.inl z))
          · exact (hm.mp z).elim (fun y => hb.mpr (Or.inr (Or.inr y))) (fun y => absurd y hne)
        · subst ex
          rw [nI_1]
          exact yes (Or.inr he)
  have key : ∀ d i (b : Bool), i + d = (rtA rt).length → (b = true ↔ rtS rt = 7 ∨ 100 ∈ (rtA rt).take i) → L_Mo_isBarred_19 NF Q (d + 1) 281 (nI r) (b2i b) (nI i) σ := by
    intro d
    induction d with
    | zero =>
      intro i b hi hb
      have e : i = (rtA rt).length := by omega
      subst e
      rw [List.take_length] at hb
      refine ⟨by rw [gr_281_26 hG, nf_305]; exact v61, w_t (by rw [gr_281_26 hG, nIc (by omega), a2]; exact (nIle (by omega) (by omega)).mpr (by omega)) ⟨_, key2 (rtC rt).length 0 b (by omega) ⟨fun z => (hb.mp z).elim Or.inl (fun y => Or.inr (Or.inl y)), fun z => ?_⟩⟩⟩
      rcases z with z | z | z
      · exact hb.mpr (Or.inl z)
      · exact hb.mpr (Or.inr z)
      · simp at z
    | succ d ih =>
      intro i b hi hb
      refine ⟨by rw [gr_281_26 hG, nf_305]; exact v61, w_f (fun z => by rw [gr_281_26 hG, nIc (by omega), a2] at z; have := (nIle (by omega) (by omega)).mp z; omega) ?_⟩
      have htk : (rtA rt).take (i + 1) = (rtA rt).take i ++ [(rtA rt)[i]'(by omega)] := List.take_succ_eq_append_getElem (by omega)
      have hm : 100 ∈ (rtA rt).take (i + 1) ↔ 100 ∈ (rtA rt).take i ∨ (rtA rt)[i]'(by omega) = 100 := by
        rw [htk, List.mem_append, List.mem_singleton]
        exact ⟨fun z => z.imp id Eq.symm, fun z => z.imp id Eq.symm⟩
      have yes : (b = true ∨ (rtA rt)[i]'(by omega) = 100) → L_Mo_isBarred_19 NF Q (d + 1) 281 (nI r) (b2i true) (nI (i + 1)) σ := fun hy => by
        refine ih (i + 1) true (by omega) ⟨fun _ => ?_, fun _ => rfl⟩
        rcases hy with hy | hy
        · exact (hb.mp hy).imp id (fun z => hm.mpr (Or.inl z))
        · exact Or.inr (hm.mpr (Or.inr hy))
      cases b with
      | true =>
        refine v_f (by decide) (fun x ex => ?_)
        subst ex
        rw [nI_1]
        exact yes (Or.inl rfl)
      | false =>
        refine v_t rfl ?_
        rw [gr_281_27 hG, nf_306, e8, nI_mul, nI_add, nIc (n := 8 * r + i) (by omega), a3 i (by omega)]
        refine ⟨vpn (by omega) (by omega), fun hne x ex => ?_, fun he x ex => ?_⟩
        · subst ex
          rw [nI_1]
          refine ih (i + 1) false (by omega) ⟨(fun z => by cases z), fun z => ?_⟩
          rcases z with z | z
          · exact hb.mpr (Or.inl z)
          · exact (hm.mp z).elim (fun y => hb.mpr (Or.inr y)) (fun y => absurd y hne)
        · subst ex
          rw [nI_1]
          exact yes (Or.inr he)
  unfold F_Mo_isBarred
  rw [gr_281_31 hG, nf_310, nIc (by omega), a7]
  refine ⟨v61, fun hne => ⟨_, key (rtA rt).length 0 false (by omega) ⟨(fun z => by cases z), fun z => z.elim (fun y => absurd y hne) (fun y => by simp at y)⟩⟩, fun he => ⟨_, key (rtA rt).length 0 true (by omega) ⟨fun _ => Or.inl he, fun _ => rfl⟩⟩⟩
end MB
