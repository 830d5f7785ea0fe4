/-! the model's tests -/
def MC (σ : rs_Mem) (C : Nat → Bool) : Prop := ∀ w, w < 5 → rs_I σ 319 w = b2i (C w)
def FpC : Nat → Nat → Prop := fun u _ => u = 319
section MK1
variable {μ σ : rs_Mem} {a : Ab} {k t : Nat} {C : Nat → Bool} {Q : rs_Mem → Prop}
theorem MR.fc {τ : rs_Mem} (h : MR μ σ a) (f : Fp FpC σ τ) (hG : Gr τ) : MR μ τ a := h.sc (f.mono fun u j q => by unfold FpC at q; unfold ScP; omega) hG
theorem MC.set {w : Nat} {b : Bool} (h : MC σ C) : MC (rs_sI σ 319 w (b2i b)) (upO C w b) := fun x hx => by
  by_cases e : x = w
  · subst e; rw [upO_same]; exact I_same
  · rw [upO_ne e]; exact (I_nk e).trans (h x hx)
theorem P_Mo_keepLeast (h : MR μ σ a) (hW : WF a) (hk : k < (aPre a).length) (ht : t = 0 ∨ t = 1 ∨ t = 2 ∨ t = 4 ∨ t = 5 ∨ t = 6) (hC : MC σ C) (hsub : ∀ w, w < 5 → C w = true → C0 a k w = true)
    (kk : ∀ τ, MC τ (stepC (msA a k) (fnA a k) t C) → MR μ τ a → Fp FpC σ τ → Q τ) : F_Mo_keepLeast NF 281 (nI t) (nI k) σ Q := by
  have e5 : (5 : Int32) = nI 5 := by decide
  have t3 : t ≠ 3 := by omega
  have cand : ∀ w, w < 5 → C w = true → ∃ c, cnd a k w = some c := fun w hw hc => by
    have := hsub w hw hc
    unfold C0 at this
    exact Option.isSome_iff_exists.mp this
  have key2 : ∀ lst : Int32, (∀ w, w < 5 → C w = true → (msA a k t w = lst ↔ beatB C (msA a k) (fnA a k) t w = false)) → ∀ d i τ, i + d = 5 → MC τ (fun w => if w < i then stepC (msA a k) (fnA a k) t C w else C w) → MR μ τ a → Fp FpC σ τ → L_Mo_keepLeast_59 NF Q (d + 1) 281 (nI t) (nI k) lst (nI i) τ := by
    intro lst hl d
    induction d with
    | zero =>
      intro i τ hi g1 g2 g3
      have e : i = 5 := by omega
      subst e
      refine w_t (by decide) (kk τ (fun w hw => ?_) g2 g3)
      have := g1 w hw
      simp only [if_pos hw] at this
      exact this
    | succ d ih =>
      intro i τ hi g1 g2 g3
      refine w_f (fun h => by rw [e5, nIle (by omega) (by omega)] at h; omega) ?_
      have d1 := g1 i (by omega)
      simp only [if_neg (Nat.lt_irrefl i)] at d1
      have fin : ∀ b : Bool, b = stepC (msA a k) (fnA a k) t C i → L_Mo_keepLeast_59 NF Q (d + 1) 281 (nI t) (nI k) lst (nI (i + 1)) (rs_sI τ 319 i (b2i b)) := fun b hb => by
        have f1 : Fp FpC τ (rs_sI τ 319 i (b2i b)) := Fp.rf.sI rfl
        refine ih (i + 1) _ (by omega) (fun w hw => ?_) (g2.fc f1 g2.1) (g3.tr f1)
        by_cases e : w = i
        · subst e
          simp only [if_pos (Nat.lt_succ_self w)]
          rw [← hb]; exact I_same
        · simp only [ite_lt e]
          exact (I_nk e).trans (g1 w hw)
      have lo : stepC (msA a k) (fnA a k) t C i = false → B_Mo_keepLeast_97 NF (L_Mo_keepLeast_59 NF Q (d + 1)) Q 281 (nI t) (nI k) lst (nI i) 319 (nI i) τ := fun hf => by
        refine ⟨by rw [nf_319]; exact vpn (by omega) (by omega), fun σ2 e2 x ex => ?_⟩
        subst ex
        rw [nIc (by omega)] at e2
        rw [nI_1, e2]
        exact fin false hf.symm
      rw [gr_281_40 g2.1, nf_319, nIc (by omega), d1]
      refine ⟨vpn (by omega) (by omega), fun hz => lo ?_, fun hz => ?_⟩
      · unfold stepC; rw [b2i_ne.mp hz]; rfl
      · have hCi : C i = true := by
          cases hc : C i with
          | true => rfl
          | false => rw [hc] at hz; exact absurd rfl hz
        obtain ⟨c, hc⟩ := cand i (by omega) hCi
        refine P_Mo_worth g2 hW hk (by omega) hc ht ⟨fun hne => lo ?_, fun he => ⟨vpn (by omega) (by omega), fun σ2 e2 x ex => ?_⟩⟩
        · have : beatB C (msA a k) (fnA a k) t i = true := by
            cases hb : beatB C (msA a k) (fnA a k) t i with
            | true => rfl
            | false => exact absurd ((hl i (by omega) hCi).mpr hb) hne
          unfold stepC; rw [this]; simp
        · subst ex
          rw [nI_1, e2]
          refine fin true ?_
          unfold stepC; rw [(hl i (by omega) hCi).mp he, hCi]; rfl
  have key : ∀ d i (lst : Int32), i + d = 5 → (∀ w, w < i → C w = true → lst ≤ msA a k t w) → (lst = 2147483647 ∨ ∃ w, w < i ∧ C w = true ∧ msA a k t w = lst) → L_Mo_keepLeast_7 NF Q (d + 1) 281 (nI t) (nI k) lst (nI i) σ := by
    intro d
    induction d with
    | zero =>
      intro i lst hi g1 g2
      have e : i = 5 := by omega
      subst e
      refine w_t (by decide) ⟨_, key2 lst (fun w hw hc => ?_) 5 0 σ rfl (fun w hw => by simp only [if_neg (Nat.not_lt_zero w)]; exact hC w hw) h Fp.rf⟩
      have hlw := g1 w hw hc
      constructor
      · intro he
        cases hb : beatB C (msA a k) (fnA a k) t w with
        | false => rfl
        | true =>
          obtain ⟨q, q1, q2, q3, -⟩ := beat_iff.mp hb
          have := g1 q q1 q2
          grind
      · intro hb
        by_cases he : msA a k t w = lst
        · exact he
        · exfalso
          rcases g2 with g2 | ⟨q, q1, q2, q3⟩
          · have h9 : ∀ x : Int32, x ≤ 2147483647 := fun x => by grind
            have := h9 (msA a k t w)
            grind
          · have : beatB C (msA a k) (fnA a k) t w = true := beat_iff.mpr ⟨q, q1, q2, by grind, fun e => absurd e t3⟩
            rw [hb] at this; cases this
    | succ d ih =>
      intro i lst hi g1 g2
      refine w_f (fun h => by rw [e5, nIle (by omega) (by omega)] at h; omega) ?_
      have same : (C i = true → lst ≤ msA a k t i) → L_Mo_keepLeast_7 NF Q (d + 1) 281 (nI t) (nI k) lst (nI (i + 1)) σ := fun hs => by
        refine ih (i + 1) lst (by omega) (fun w hw hc => ?_) (g2.imp id (fun ⟨q, q1, q2⟩ => ⟨q, by omega, q2⟩))
        by_cases e : w = i
        · subst e; exact hs hc
        · exact g1 w (by omega) hc
      rw [gr_281_40 h.1, nf_319, nIc (by omega), hC i (by omega)]
      refine ⟨vpn (by omega) (by omega), fun hz => ?_, fun hz => ?_⟩
      · have hCi := b2i_ne.mp hz
        refine ⟨fun _ x ex => ?_, fun hn => absurd (by grind : lst ≤ lst) hn⟩
        subst ex
        rw [nI_1]
        exact same (fun hc => by rw [hCi] at hc; cases hc)
      · have hCi : C i = true := by
          cases hc : C i with
          | true => rfl
          | false => rw [hc] at hz; exact absurd rfl hz
        obtain ⟨c, hc⟩ := cand i (by omega) hCi
        refine P_Mo_worth h hW hk (by omega) hc ht ⟨fun hle x ex => ?_, fun hgt x ex => ?_⟩
        · subst ex
          rw [nI_1]
          exact same (fun _ => hle)
        · subst ex
          rw [nI_1]
          refine ih (i + 1) (msA a k t i) (by omega) (fun w hw hcw => ?_) (Or.inr ⟨i, by omega, hCi, rfl⟩)
          by_cases e : w = i
          · subst e; grind
          · have := g1 w (by omega) hcw
            grind
  exact ⟨_, key 5 0 2147483647 rfl (fun w hw => by omega) (Or.inl rfl)⟩
end MK1
