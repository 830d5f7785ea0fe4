/-! the law, from call to call -/
theorem law_step {L i : Nat} {xs : Nat → Int32} {K : Nat → Nat → Nat → Nat → Int32 → rs_Mem → Prop} {σ : rs_Mem} {a : Ab} (hL : L ≤ 2560) (hi : i + 5 ≤ L) (hC : CR σ σ a) (hM : MR σ σ a) (hJ : AJ a)
    (next : ∀ ρ b, CR ρ ρ b → MR ρ ρ b → AJ b → ∀ x : Int32, x = nI i + 5 → K 1 281 320 321 x ρ) : G_La_law_28 NF xs L K 1 281 320 321 (nI i) σ := by
  have i2 : (2 : Int32) = nI 2 := by decide
  have i3 : (3 : Int32) = nI 3 := by decide
  have i4 : (4 : Int32) = nI 4 := by decide
  have t0 : (0 : Int32).toNatClampNeg = 0 := by decide
  have q0 : vp_in (nI i) L := vpn (by omega) (by omega)
  have q1 : vp_in (nI i + 1) L := by rw [nI_1]; exact vpn (by omega) (by omega)
  have q2 : vp_in (nI i + 2) L := by rw [i2, nI_add]; exact vpn (by omega) (by omega)
  have q3 : vp_in (nI i + 3) L := by rw [i3, nI_add]; exact vpn (by omega) (by omega)
  have q4 : vp_in (nI i + 4) L := by rw [i4, nI_add]; exact vpn (by omega) (by omega)
  have hpad := AI0_okPad hJ.1.1
  have v321 : vp_in (0 : Int32) (NF 321) := by rw [nf_321]; exact vpl rfl
  -- what follows a call that sets
  have fU : ∀ {τ ρ : rs_Mem} {r : Int32 × Ab}, CR σ τ r.2 → MR ρ ρ r.2 → Lx τ ρ → AJ r.2 → ∀ x : Int32, x = nI i + 5 → K 1 281 320 321 x ρ := fun c1 m1 m2 j => next _ _ (c1.lx m2 m1.1) m1 j
  -- what follows a call that answers yes or no
  have fB : ∀ {τ ρ : rs_Mem} {r : Int32 × Int64 × Ab} {b : Int32}, CR σ τ r.2.2 → (r.1 = 0 → rs_L τ 320 0 = r.2.1) → MR ρ ρ r.2.2 → Lx τ ρ → AJ r.2.2 → (r.1 = 0 → (b = 0 → r.2.1 = 0) ∧ (b ≠ 0 → r.2.1 = 1)) →
      ((¬ (r.1 = 0) → (∀ x64 : Int32, x64 = nI i + 5 → (K 1 281 320 321 x64 ρ))) ∧ (r.1 = 0 → (vp_in (0 : Int32) (NF 320) ∧ ((b = 0 → (((lg_cmp (rs_L ρ 320 (0 : Int32).toNatClampNeg) (0 : Int64)) = 0 → (∀ x51 : Int32, x51 = nI i + 5 → (K 1 281 320 321 x51 ρ))) ∧ (¬ ((lg_cmp (rs_L ρ 320 (0 : Int32).toNatClampNeg) (0 : Int64)) = 0) → False))) ∧ (¬ (b = 0) → (((lg_cmp (rs_L ρ 320 (0 : Int32).toNatClampNeg) (1 : Int64)) = 0 → (∀ x51 : Int32, x51 = nI i + 5 → (K 1 281 320 321 x51 ρ))) ∧ (¬ ((lg_cmp (rs_L ρ 320 (0 : Int32).toNatClampNeg) (1 : Int64)) = 0) → False))))))) := fun c1 c2 m1 m2 j hb => by
    have nx := next _ _ (c1.lx m2 m1.1) m1 j
    refine ⟨fun _ => nx, fun h0 => ⟨vp320, fun hz => w_t ?_ nx, fun hz => w_t ?_ nx⟩⟩
    · rw [t0, lg_cmp_eq, m2.L, c2 h0, (hb h0).1 hz]
    · rw [t0, lg_cmp_eq, m2.L, c2 h0, (hb h0).2 hz]
  -- what follows a call that answers with a number
  have fN : ∀ {τ ρ : rs_Mem} {r : Int32 × Int64 × Ab} {b : Int32}, CR σ τ r.2.2 → (r.1 = 0 → rs_L τ 320 0 = r.2.1) → MR ρ ρ r.2.2 → Lx τ ρ → AJ r.2.2 → (r.1 = 0 → r.2.1 = b.toInt64) →
      ((¬ (r.1 = 0) → (∀ x64 : Int32, x64 = nI i + 5 → (K 1 281 320 321 x64 ρ))) ∧ (r.1 = 0 → (vp_in (0 : Int32) (NF 320) ∧ (((lg_cmp (rs_L ρ 320 (0 : Int32).toNatClampNeg) (b.toInt64)) = 0 → (∀ x51 : Int32, x51 = nI i + 5 → (K 1 281 320 321 x51 ρ))) ∧ (¬ ((lg_cmp (rs_L ρ 320 (0 : Int32).toNatClampNeg) (b.toInt64)) = 0) → False))))) := fun c1 c2 m1 m2 j hb => by
    have nx := next _ _ (c1.lx m2 m1.1) m1 j
    refine ⟨fun _ => nx, fun h0 => ⟨vp320, w_t ?_ nx⟩⟩
    rw [t0, lg_cmp_eq, m2.L, c2 h0, hb h0]
  refine w_f (fun z => by have := (lawcond hL (by omega)).mp z; omega) ⟨q0, fun _ => next σ a hC hM hJ, fun _ => ?_, fun _ => ?_, fun _ => ?_, fun _ => ?_, fun _ => ?_, fun _ => ?_, fun _ => ?_, fun _ => ?_, fun _ => ?_, fun _ => ?_, fun _ => ?_, fun _ => ?_, fun _ => ?_, fun _ => ?_, fun _ => ?_, fun _ => ?_, fun _ => ?_⟩
  · exact ⟨q1, q2, q3, C_peer hC (fun τ c1 => ⟨q1, q2, q3, M_peer (hM.hi c1.hi' c1.1) hJ (fun ρ m1 m2 m3 => w_t m3 (fU c1 m1 m2 (AJ_peer hJ).1))⟩)⟩
  · exact ⟨q1, q2, q3, q4, C_rule hC hpad (fun τ c1 => ⟨q1, q2, q3, q4, M_rule (hM.hi c1.hi' c1.1) hJ (fun ρ m1 m2 m3 => w_t m3 (fU c1 m1 m2 (AJ_rule hJ)))⟩)⟩
  · exact ⟨q1, C_unrule hC hpad (fun τ c1 => ⟨q1, M_unrule (hM.hi c1.hi' c1.1) hJ (fun ρ m1 m2 m3 => w_t m3 (fU c1 m1 m2 (AJ_unrule hJ)))⟩)⟩
  · exact ⟨q1, q2, q3, q4, C_outb hC hpad (fun τ c1 => ⟨q1, q2, q3, q4, M_outb (hM.hi c1.hi' c1.1) hJ (fun ρ m1 m2 m3 => w_t m3 (fU c1 m1 m2 (AJ_outb hJ)))⟩)⟩
  · exact ⟨q1, q2, C_orig hC hpad (fun τ c1 c2 => ⟨q1, q2, M_orig (hM.hi c1.hi' c1.1) hJ (fun ρ b m1 m2 m3 m4 => w_t m3 (fB c1 c2 m1 m2 (AJ_orig hJ) m4))⟩)⟩
  · exact ⟨q1, q2, C_retr hC hpad (fun τ c1 c2 => ⟨q1, q2, M_retr (hM.hi c1.hi' c1.1) hJ (fun ρ b m1 m2 m3 m4 => w_t m3 (fB c1 c2 m1 m2 (AJ_retr hJ) m4))⟩)⟩
  · exact ⟨q1, C_start hC hpad (fun τ c1 c2 => ⟨q1, M_start (hM.hi c1.hi' c1.1) hJ (fun ρ b m1 m2 m3 m4 => w_t m3 (fB c1 c2 m1 m2 (AJ_start hJ) m4))⟩)⟩
  · exact ⟨q1, C_stop hC hpad (fun τ c1 c2 => ⟨q1, M_stop (hM.hi c1.hi' c1.1) hJ (fun ρ b m1 m2 m3 m4 => w_t m3 (fB c1 c2 m1 m2 (AJ_stop hJ) m4))⟩)⟩
  · exact ⟨q1, q2, q3, q4, C_feed hC hJ (fun τ c1 c2 => ⟨q1, q2, q3, q4, M_feed (hM.hi c1.hi' c1.1) hJ (fun ρ b m1 m2 m3 m4 => w_t m3 (fB c1 c2 m1 m2 (AJ_feed hJ) m4))⟩)⟩
  · exact ⟨q1, C_take hC (fun τ c1 c2 => ⟨q1, M_take (hM.hi c1.hi' c1.1) hJ (fun ρ b m1 m2 m3 m4 => w_t m3 (fN c1 c2 m1 m2 (AJ_take hJ) m4))⟩)⟩
  · exact C_tick hC hpad (fun p hp => (hJ.1.1.2.2 p hp).1.2.2.2.1) (fun τ c1 => M_tick (hM.hi c1.hi' c1.1) hJ (fun ρ m1 m2 => w_t rfl (fU c1 m1 m2 (AJ_tick hJ))))
  · exact ⟨q1, q2, C_session hC ⟨q1, q2, M_session hM (fun ρ m1 m2 => w_t rfl (next ρ a (hC.lx m2 m1.1) m1 hJ))⟩⟩
  · exact ⟨q1, q2, q3, C_best hC (fun τ c1 c2 => ⟨q1, q2, q3, M_best (hM.hi c1.hi' c1.1) hJ (fun ρ b m1 m2 m3 m4 => w_t m3 (fN c1 c2 m1 m2 hJ m4))⟩)⟩
  · exact ⟨q1, q2, q3, C_flaw hC (fun τ c1 c2 => ⟨q1, q2, q3, M_flaw (hM.hi c1.hi' c1.1) hJ (fun ρ b m1 m2 m3 m4 => w_t m3 (fN c1 c2 m1 m2 hJ m4))⟩)⟩
  · refine ⟨q1, q2, q3, C_pen hC (fun τ c1 c2 => ⟨q1, q2, q3, M_pen (hM.hi c1.hi' c1.1) hJ.2 (fun ρ v m1 m2 m3 m4 => w_t m3 ?_)⟩)⟩
    have nx := next _ _ (c1.lx m2 m1.1) m1 hJ
    refine ⟨fun _ => nx, fun h0 => ⟨v321, ?_⟩⟩
    rw [t0, m2.D, c2 h0, m4 h0]
    exact ⟨fun _ => nx, fun z => ⟨v321, v321, w_f z (v_f z nx)⟩⟩
  · exact ⟨q1, C_fwd hC (fun τ c1 c2 => ⟨q1, M_fwd (hM.hi c1.hi' c1.1) hJ (fun ρ b m1 m2 m3 m4 => w_t m3 (fN c1 c2 m1 m2 hJ m4))⟩)⟩
  · exact C_known hC (M_known hM (fun ρ m1 m2 => w_t rfl (next ρ a (hC.lx m2 m1.1) m1 hJ)))
theorem lw_pure (xs : Nat → Int32) (L : Nat) (hL : L ≤ 2560) : ∃ n : Nat, n ≤ 600000 ∧ L_La_law_28 rs_SF.2.2 xs L n 1 281 320 321 0 rs_MF := by
  have i5 : (5 : Int32) = nI 5 := by decide
  have key : ∀ d i σ a, L ≤ i + d → i ≤ 2565 → CR σ σ a → MR σ σ a → AJ a → L_La_law_28 NF xs L (d + 1) 1 281 320 321 (nI i) σ := by
    intro d
    induction d with
    | zero =>
      intro i σ a h1 h2 hC hM hJ
      exact w_t ((lawcond hL (by omega)).mpr (by omega)) trivial
    | succ d ih =>
      intro i σ a h1 h2 hC hM hJ
      by_cases h : L < i + 5
      · exact w_t ((lawcond hL (by omega)).mpr h) trivial
      · refine law_step hL (by omega) hC hM hJ (fun ρ b c1 m1 j x ex => ?_)
        rw [i5, nI_add] at ex
        subst ex
        exact ih (i + 5) ρ b (by omega) (by omega) c1 m1 j
  exact ⟨2561, by omega, key 2560 0 rs_MF a0 (by omega) (by omega) CR_0 MR_0 AJ_0⟩
