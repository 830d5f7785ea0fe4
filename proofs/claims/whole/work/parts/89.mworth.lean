/-! the model's measures -/
def wfRt (s : Ps) (rt : Rt) : Prop := (rtS rt = 0 ∨ 0 < rtS rt) ∧ (rtM rt = -1 ∨ 0 ≤ rtM rt) ∧ (pRole s = 0 → rtP rt = 100)
def WF (a : Ab) : Prop := wfP (aPre a) ∧ ∀ p, p < 4 → wfR (pRul (aPe a p)) ∧ ∀ k rt, pInc (aPe a p) k = some rt → wfRt (aPe a p) rt
section MW
variable {μ σ : rs_Mem} {a : Ab} {k w : Nat} {Q : Int32 → rs_Mem → Prop}
/-- a candidate's route in the model's arrays -/
theorem cnd_route (h : MR μ σ a) (hW : WF a) (hk : k < 12) (hw : w < 5) {c : Cd} (hc : cnd a k w = some c) : (∃ e, MRt σ (12 * w + k) c.1 e) ∧ (rtS c.1 = 0 ∨ 0 < rtS c.1) ∧ (rtM c.1 = -1 ∨ 0 ≤ rtM c.1) := by
  unfold cnd at hc
  by_cases e : w = 4
  · rw [if_pos e] at hc
    split at hc
    · rename_i ho
      cases hc
      subst e
      exact ⟨⟨false, (h.2.2.1.1 k hk).2 ho⟩, Or.inl rfl, Or.inl rfl⟩
    · cases hc
  · rw [if_neg e] at hc
    cases hi : pInc (aPe a w) k with
    | none => rw [hi] at hc; cases hc
    | some r =>
      rw [hi] at hc
      simp only at hc
      split at hc
      · cases hc
      · cases hc
        have hwf := (hW.2 w (by omega)).2 k r hi
        exact ⟨⟨_, ((h.2.2.2 w (by omega)).2.2.2.2.1 k hk).2.1 r hi⟩, hwf.1, hwf.2.1⟩
theorem P_Mo_worth {t : Nat} (h : MR μ σ a) (hW : WF a) (hk : k < (aPre a).length) (hw : w < 5) {c : Cd} (hc : cnd a k w = some c) (ht : t = 0 ∨ t = 1 ∨ t = 2 ∨ t = 4 ∨ t = 5 ∨ t = 6) (kk : Q (msA a k t w) σ) : F_Mo_worth NF 281 (nI t) (nI w) (nI k) σ Q := by
  have hk12 : k < 12 := by have := h.2.1.2.1; omega
  obtain ⟨⟨e, a1, a2, a3, a4, a5, a6, a7, a8, a9, a10, a11⟩, hs, hm⟩ := cnd_route h hW hk12 hw hc
  have i1 : (1 : Int32) = nI 1 := by decide
  have i2 : (2 : Int32) = nI 2 := by decide
  have i4 : (4 : Int32) = nI 4 := by decide
  have i5 : (5 : Int32) = nI 5 := by decide
  have i6 : (6 : Int32) = nI 6 := by decide
  have i0 : (0 : Int32) = nI 0 := by decide
  have e12 : (12 : Int32) = nI 12 := by decide
  have v61 : vp_in (nI (12 * w + k)) 61 := vpn (by omega) (by omega)
  have lit : ∀ x j : Nat, x < 100 → j < 100 → ∀ c : Int32, c = nI j → (nI x = c ↔ x = j) := fun x j hx hj c hc => by rw [hc]; exact nI_lit (by omega) (by omega)
  intro x ex
  rw [e12, nI_mul, nI_add] at ex
  subst ex
  have hms : msA a k t w = cms c.1 c.2.1 c.2.2.1 c.2.2.2 t := by unfold msA; rw [hc]
  rw [hms] at kk
  unfold cms at kk
  rw [lit t 0 (by omega) (by omega) 0 i0, lit t 1 (by omega) (by omega) 1 i1, lit t 2 (by omega) (by omega) 2 i2, lit t 4 (by omega) (by omega) 4 i4, lit t 5 (by omega) (by omega) 5 i5, lit t 6 (by omega) (by omega) 6 i6, lit w 4 (by omega) (by omega) 4 i4]
  have hcc := hc
  unfold cnd at hcc
  have own : w = 4 → c = (ownR, 100, false, 7) := fun e => by
    rw [if_pos e] at hcc
    split at hcc
    · exact (Option.some.inj hcc).symm
    · cases hcc
  have oth : w ≠ 4 → ∃ r, pInc (aPe a w) k = some r ∧ c = (r, prf (aPe a w) r (prx a k), decide (pRole (aPe a w) ≠ 0), pId (aPe a w)) := fun e => by
    rw [if_neg e] at hcc
    cases hi : pInc (aPe a w) k with
    | none => rw [hi] at hcc; cases hcc
    | some r =>
      rw [hi] at hcc
      simp only at hcc
      split at hcc
      · cases hcc
      · exact ⟨r, rfl, (Option.some.inj hcc).symm⟩
  rcases ht with rfl | rfl | rfl | rfl | rfl | rfl
  · refine v_t rfl ?_
    by_cases e4 : w = 4
    · have := own e4
      subst this
      subst e4
      rw [← i4]
      exact P_Mo_valued4 kk
    · obtain ⟨r, hr, rfl⟩ := oth e4
      have hw4 : w < 4 := by omega
      exact P_Mo_valued h hw4 hk (hW.2 w hw4).1 hW.1 hr ((hW.2 w hw4).2 k r hr).2.2 kk
  · refine v_f (by omega) (v_t rfl ?_)
    rw [gr_281_26 h.1, nf_305, nIc (by omega), a2]
    exact ⟨v61, kk⟩
  · refine v_f (by omega) (v_f (by omega) (v_t rfl ?_))
    rw [gr_281_25 h.1, nf_304, nIc (by omega), a1]
    exact ⟨v61, kk⟩
  · refine v_f (by omega) (v_f (by omega) (v_f (by omega) (v_t rfl ?_)))
    by_cases e4 : w = 4
    · have := own e4
      subst this
      exact w_t e4 kk
    · obtain ⟨r, hr, rfl⟩ := oth e4
      refine w_f e4 (P_Mo_isInternal h (by omega) ?_)
      cases hd : decide (pRole (aPe a w) ≠ 0) with
      | true => rw [hd] at kk; exact v_f (by decide) kk
      | false => rw [hd] at kk; exact v_t rfl kk
  · refine v_f (by omega) (v_f (by omega) (v_f (by omega) (v_f (by omega) (v_t rfl ?_))))
    rw [gr_281_31 h.1, nf_310, nIc (n := 12 * w + k) (by omega), a7, gr_281_7 h.1, nf_288]
    refine ⟨v61, fun hle => ?_, fun hgt => ⟨v61, ?_⟩⟩
    · have hz : rtS c.1 = 0 := hs.elim id (fun z => by grind)
      have kk : Q (rSrc c.1 c.2.2.2) σ := kk
      unfold rSrc at kk
      rw [if_pos hz] at kk
      refine ⟨fun e4 => ?_, fun e4 => ?_⟩
      · obtain ⟨r, hr, rfl⟩ := oth e4
        rw [nIc (by omega), (h.2.2.2 w (by omega)).1.2.2.2.2.2.2.1]
        exact ⟨vpn (by omega) (by omega), kk⟩
      · have := own e4
        subst this
        exact kk
    · have hz : ¬ rtS c.1 = 0 := fun z => hgt (by rw [z]; decide)
      have kk : Q (rSrc c.1 c.2.2.2) σ := kk
      unfold rSrc at kk
      rw [if_neg hz] at kk
      exact kk
  · refine v_f (by omega) (v_f (by omega) (v_f (by omega) (v_f (by omega) (v_f (by omega) (v_t rfl ?_)))))
    rw [gr_281_32 h.1, nf_311, nIc (by omega), a8]
    exact ⟨v61, kk⟩
end MW
