/-! the fault of an UPDATE -/
theorem nI_mul (a b : Nat) : nI a * nI b = nI (a * b) := (Int32.ofNat_mul a b).symm
theorem nI_mod2 {k : Nat} (h : k < 100) : nI k - nI k / 2 * 2 = nI (k % 2) := (by decide +kernel : ∀ k, k < 100 → nI k - nI k / 2 * 2 = nI (k % 2)) k h
theorem nI_div2 {k : Nat} (h : k < 100) : nI k / 2 = nI (k / 2) := (by decide +kernel : ∀ k, k < 100 → nI k / 2 = nI (k / 2)) k h
def cnU (m : Nat → Nat) : Nat := 3 + 2 * m 2
def frU (m : Nat → Nat) : Nat := cnU m + 1
def toU (m : Nat → Nat) : Nat := frU m + m (cnU m)
def anU (m : Nat → Nat) (n : Nat) : Nat := (n - toU m) / 2
def psU (m : Nat → Nat) : Option (List Nat) := tlv m 64 (frU m) (toU m)
abbrev frmU (m : Nat → Nat) (n : Nat) : Prop := cnU m < n ∧ toU m ≤ n ∧ (n - toU m) % 2 = 0 ∧ (psU m).isSome = true
theorem tlv_gt {m : Nat → Nat} {e : Nat} : ∀ (f i : Nat), e < i → tlv m f i e = none
  | 0, _, _ => rfl
  | f + 1, i, h => by
    unfold tlv
    rw [if_neg (by omega), if_neg (by omega)]
/-- the message and its counters -/
def Cn (σ : rs_Mem) (n : Nat) (m : Nat → Nat) : Prop := rs_I σ 10 4 = nI (m 2) ∧ rs_I σ 10 5 = nI (anU m n) ∧ rs_I σ 10 6 = nI (frU m) ∧ rs_I σ 10 7 = nI (toU m)
theorem Cn.fr {A : Nat → Prop} {σ τ : rs_Mem} {n : Nat} {m : Nat → Nat} (h : Cn σ n m) (f : Fr A σ τ) (hv : ¬ A 10) : Cn τ n m := ⟨(f.I hv _).trans h.1, (f.I hv _).trans h.2.1, (f.I hv _).trans h.2.2.1, (f.I hv _).trans h.2.2.2⟩
section FA
variable {σ : rs_Mem} {v n : Nat} {m : Nat → Nat}
theorem P_walk {Q : Int32 → rs_Mem → Prop} (hM : Ms σ v n m) (he : toU m ≤ n) (h7 : rs_I σ 10 7 = nI (toU m)) : ∀ f i, toU m + 1 ≤ i + f → i < 1000 → Q (b2i (tlv m f i (toU m)).isSome) σ → L_Up_isFramed_98 NF Q (f + 1) 10 (nI i) σ := by
  obtain ⟨m1, m2, m3, m4, m5⟩ := hM
  have ends : ∀ f i, toU m ≤ i + 1 → toU m + 1 ≤ i + f → i < 1000 → Q (b2i (tlv m f i (toU m)).isSome) σ → ((¬ (nI i = (rs_I σ 10 7)) → (Q (0 : Int32) σ)) ∧ (nI i = (rs_I σ 10 7) → (Q (1 : Int32) σ))) := fun f i h1 h2 hi hQ => by
    rw [h7, nI_lit hi (by omega)]
    cases f with
    | zero => exact ⟨fun _ => hQ, fun z => by omega⟩
    | succ f =>
      unfold tlv at hQ
      refine ⟨fun z => ?_, fun z => ?_⟩
      · rw [if_neg z, if_neg (by omega)] at hQ; exact hQ
      · rw [if_pos z] at hQ; exact hQ
  intro f
  induction f with
  | zero =>
    intro i hf hi hQ
    refine w_t ?_ (ends 0 i (by omega) hf hi hQ)
    rw [h7, nI_1]
    exact (nIle (by omega) (by omega)).mpr (by omega)
  | succ f ih =>
    intro i hf hi hQ
    by_cases hc : toU m ≤ i + 1
    · refine w_t ?_ (ends (f + 1) i hc hf hi hQ)
      rw [h7, nI_1]
      exact (nIle (by omega) (by omega)).mpr (by omega)
    · refine w_f (fun h => by rw [h7, nI_1] at h; have := (nIle (by omega) (by omega)).mp h; omega) ?_
      rw [nI_1, m1, m3, nIc (by omega), (m5 (i + 1) (by omega)).1]
      have hb := (m5 (i + 1) (by omega)).2
      refine ⟨vpn (by omega) (by omega), fun x ex => ?_⟩
      have e2 : (2 : Int32) = nI 2 := by decide
      rw [e2, nI_add, nI_add] at ex
      subst ex
      have en : i + (2 + m (i + 1)) = i + 2 + m (i + 1) := by omega
      rw [en]
      refine ih (i + 2 + m (i + 1)) (by omega) (by omega) ?_
      unfold tlv at hQ
      rw [if_neg (by omega)] at hQ
      by_cases h3 : i + 2 + m (i + 1) ≤ toU m
      · rw [if_pos h3] at hQ
        cases ht : tlv m f (i + 2 + m (i + 1)) (toU m) with
        | none => rw [ht] at hQ; exact hQ
        | some t => rw [ht] at hQ; exact hQ
      · rw [if_neg h3] at hQ
        rw [tlv_gt f _ (by omega)]
        exact hQ
theorem P_Up_isFramed {Q : Int32 → rs_Mem → Prop} (hG : Gr σ) (hM : Ms σ v n m) (h3 : rs_I σ 10 3 = nI n) (hn : 3 ≤ n)
    (k1 : frmU m n → ∀ τ, Cn τ n m → Fr (fun u => u = 10) σ τ → (∀ u j, rs_R τ u j = rs_R σ u j) → Q 1 τ) (k0 : ¬ frmU m n → ∀ τ, Fr (fun u => u = 10) σ τ → (∀ u j, rs_R τ u j = rs_R σ u j) → Q 0 τ) : F_Up_isFramed NF 10 σ Q := by
  have hM0 := hM
  obtain ⟨m1, m2, m3, m4, m5⟩ := hM0
  have t2 : (2 : Int32).toNatClampNeg = 2 := by decide
  have i2 : (2 : Int32) = nI 2 := by decide
  have i3 : (3 : Int32) = nI 3 := by decide
  have hb2 := (m5 2 (by omega)).2
  unfold F_Up_isFramed
  rw [m1, m3, t2, (m5 2 (by omega)).1]
  refine ⟨vpl rfl, fun σ1 e1 x ex => ?_⟩
  have f1 : Fr (fun u => u = 10) σ σ1 := by rw [e1]; exact Fr.sI (A := fun u => u = 10) Fr.rf rfl
  have r1 : ∀ u j, rs_R σ1 u j = rs_R σ u j := fun u j => by rw [e1]; rfl
  have b4 : rs_I σ1 10 4 = nI (m 2) := by rw [e1]; exact I_same
  have b3 : rs_I σ1 10 3 = nI n := by rw [e1, I_nk (by omega)]; exact h3
  rw [b4, i2, nI_mul, i3, nI_add] at ex
  subst ex
  have hcn : 3 + 2 * m 2 = cnU m := rfl
  rw [hcn, b3, nIlt (by unfold cnU; omega) (by omega)]
  refine ⟨fun hc σ2 e2 => ?_, fun hc => k0 (fun z => hc z.1) σ1 f1 r1⟩
  have hbc := (m5 (cnU m) hc).2
  rw [nI_1] at e2
  have hM2 : Ms σ2 v n m := hM.fr (A := fun u => u = 10) (by rw [e2]; exact Fr.sI (A := fun u => u = 10) f1 rfl) (by omega) (by rw [e2]; exact r1 _ _)
  have b6 : rs_I σ2 10 6 = nI (frU m) := by rw [e2]; exact I_same
  rw [hM2.1, m3, nIc (by omega), (hM2.2.2.2.2 (cnU m) hc).1, b6, nI_add]
  refine ⟨vpn (by omega) (by omega), fun σ3 e3 => ?_⟩
  have ht : frU m + m (cnU m) = toU m := rfl
  rw [ht] at e3
  have htb : toU m < 400 := by unfold toU frU; omega
  have f3 : Fr (fun u => u = 10) σ σ3 := by
    rw [e3, e2]; exact Fr.sI (A := fun u => u = 10) (Fr.sI (A := fun u => u = 10) f1 rfl) rfl
  have r3 : ∀ u j, rs_R σ3 u j = rs_R σ u j := fun u j => by rw [e3, e2]; exact r1 u j
  have c3 : rs_I σ3 10 3 = nI n := by rw [e3, I_nk (by omega), e2, I_nk (by omega)]; exact b3
  have c4 : rs_I σ3 10 4 = nI (m 2) := by rw [e3, I_nk (by omega), e2, I_nk (by omega)]; exact b4
  have c6 : rs_I σ3 10 6 = nI (frU m) := by rw [e3, I_nk (by omega)]; exact b6
  have c7 : rs_I σ3 10 7 = nI (toU m) := by rw [e3]; exact I_same
  rw [c3, c7, nIlt (by omega) (by omega)]
  refine ⟨fun hlt => k0 (fun z => by have := z.2.1; omega) σ3 f3 r3, fun hle => ?_⟩
  have i0 : (0 : Int32) = nI 0 := by decide
  rw [nIsub (by omega), nI_mod2 (by omega), nI_div2 (by omega), i0, nI_lit (by omega) (by omega)]
  refine ⟨fun hev σ4 e4 y ey => ?_, fun hod => k0 (fun z => hod z.2.2.1) σ3 f3 r3⟩
  have f4 : Fr (fun u => u = 10) σ σ4 := by rw [e4]; exact Fr.sI (A := fun u => u = 10) f3 rfl
  have r4 : ∀ u j, rs_R σ4 u j = rs_R σ u j := fun u j => by rw [e4]; exact r3 u j
  have d6 : rs_I σ4 10 6 = nI (frU m) := by rw [e4, I_nk (by omega)]; exact c6
  have d7 : rs_I σ4 10 7 = nI (toU m) := by rw [e4, I_nk (by omega)]; exact c7
  have hM4 : Ms σ4 v n m := hM.fr f4 (by omega) (r4 _ _)
  rw [d6] at ey
  subst ey
  refine ⟨65, P_walk hM4 (by omega) d7 64 (frU m) (by unfold toU frU cnU; unfold toU frU cnU at hle; omega) (by unfold frU; omega) ?_⟩
  cases hs : (tlv m 64 (frU m) (toU m)).isSome with
  | true => exact k1 ⟨hc, by omega, hev, hs⟩ σ4 ⟨by rw [e4, I_nk (by omega)]; exact c4, by rw [e4]; exact I_same, d6, d7⟩ f4 r4
  | false => exact k0 (fun z => by have h5 : (tlv m 64 (frU m) (toU m)).isSome = true := z.2.2.2; rw [hs] at h5; cases h5) σ4 f4 r4
theorem P_Up_hasOnlyPrefixes {Q : Int32 → rs_Mem → Prop} (hM : Ms σ v n m) (hC : Cn σ n m) (hf : frmU m n) (k1 : (pfOK m 3 (m 2) ∧ pfOK m (toU m) (anU m n)) → Q 1 σ) (k0 : ¬ (pfOK m 3 (m 2) ∧ pfOK m (toU m) (anU m n)) → Q 0 σ) : F_Up_hasOnlyPrefixes NF 10 σ Q := by
  obtain ⟨m1, m2, m3, m4, m5⟩ := hM
  obtain ⟨c4, c5, c6, c7⟩ := hC
  obtain ⟨f1, f2, f3, -⟩ := hf
  have i2 : (2 : Int32) = nI 2 := by decide
  have i3 : (3 : Int32) = nI 3 := by decide
  have hcn : cnU m = 3 + 2 * m 2 := rfl
  have han : toU m + 2 * anU m n = n := by unfold anU; omega
  have key2 : ∀ d j b, j + d = anU m n → ((b = true ↔ pfOK m 3 (m 2) ∧ pfOK m (toU m) j)) → L_Up_hasOnlyPrefixes_56 NF Q (d + 1) 10 (b2i b) (nI j) σ := by
    intro d
    induction d with
    | zero =>
      intro j b hj hb
      have e : j = anU m n := by omega
      subst e
      refine w_t (by rw [c5]; exact (nIle (by omega) (by omega)).mpr (by omega)) ⟨by cases b <;> decide, ?_⟩
      cases b with
      | true => exact k1 (hb.mp rfl)
      | false => exact k0 (fun z => by have := hb.mpr z; cases this)
    | succ d ih =>
      intro j b hj hb
      refine w_f (fun h => by rw [c5] at h; have := (nIle (by omega) (by omega)).mp h; omega) ?_
      unfold F_Up_announcedAt
      rw [c7, i2, nI_mul, nI_add]
      cases b with
      | false =>
        refine w_t rfl (fun x ex => ?_)
        subst ex
        rw [nI_1]
        refine ih (j + 1) false (by omega) ⟨fun z => (by cases z), fun z => hb.mpr ⟨z.1, fun q hq => z.2 q (by omega)⟩⟩
      | true =>
        have hb := hb.mp rfl
        refine w_f (by decide) ?_
        rw [nI_1 (toU m + 2 * j), m1, m3, nIc (n := toU m + 2 * j) (by omega), nIc (n := toU m + 2 * j + 1) (by omega), (m5 (toU m + 2 * j) (by omega)).1, (m5 (toU m + 2 * j + 1) (by omega)).1]
        refine ⟨vpn (by omega) (by omega), vpn (by omega) (by omega), P_Sp_isPrefix (fun hp => w_f (by decide) (fun x ex => ?_)) (fun hp => w_t rfl (fun x ex => ?_))⟩
        · subst ex
          rw [nI_1]
          refine ih (j + 1) true (by omega) ⟨fun _ => ⟨hb.1, fun q hq => ?_⟩, fun _ => rfl⟩
          by_cases e : q = j
          · subst e; exact hp
          · exact hb.2 q (by omega)
        · subst ex
          rw [nI_1]
          exact ih (j + 1) false (by omega) ⟨fun z => (by cases z), fun z => absurd (z.2 j (by omega)) hp⟩
  have key : ∀ d j b, j + d = m 2 → ((b = true ↔ pfOK m 3 j)) → L_Up_hasOnlyPrefixes_4 NF Q (d + 1) 10 (b2i b) (nI j) σ := by
    intro d
    induction d with
    | zero =>
      intro j b hj hb
      have e : j = m 2 := by omega
      subst e
      exact w_t (by rw [c4]; exact (nIle (by omega) (by omega)).mpr (by omega)) ⟨_, key2 (anU m n) 0 b (by omega) ⟨fun z => ⟨hb.mp z, fun q hq => by omega⟩, fun z => hb.mpr z.1⟩⟩
    | succ d ih =>
      intro j b hj hb
      refine w_f (fun h => by rw [c4] at h; have := (nIle (by omega) (by omega)).mp h; omega) ?_
      unfold F_Up_withdrawnAt
      rw [i2, nI_mul, i3, nI_add]
      cases b with
      | false =>
        refine w_t rfl (fun x ex => ?_)
        subst ex
        rw [nI_1]
        exact ih (j + 1) false (by omega) ⟨fun z => (by cases z), fun z => hb.mpr (fun q hq => z q (by omega))⟩
      | true =>
        have hb := hb.mp rfl
        refine w_f (by decide) ?_
        rw [nI_1 (3 + 2 * j), m1, m3, nIc (n := 3 + 2 * j) (by omega), nIc (n := 3 + 2 * j + 1) (by omega), (m5 (3 + 2 * j) (by omega)).1, (m5 (3 + 2 * j + 1) (by omega)).1]
        refine ⟨vpn (by omega) (by omega), vpn (by omega) (by omega), P_Sp_isPrefix (fun hp => w_f (by decide) (fun x ex => ?_)) (fun hp => w_t rfl (fun x ex => ?_))⟩
        · subst ex
          rw [nI_1]
          refine ih (j + 1) true (by omega) ⟨fun _ => fun q hq => ?_, fun _ => rfl⟩
          by_cases e : q = j
          · subst e; exact hp
          · exact hb q (by omega)
        · subst ex
          rw [nI_1]
          exact ih (j + 1) false (by omega) ⟨fun z => (by cases z), fun z => absurd (z j (by omega)) hp⟩
  exact ⟨_, key (m 2) 0 true (by omega) ⟨fun _ => fun q hq => by omega, fun _ => rfl⟩⟩
theorem P_Up_announcementFault {ps : List Nat} {ext : Bool} {net : Int32} {Q : Int32 → rs_Mem → Prop} (hG : Gr σ) (hS : Sn σ m ps) (hr : RRt σ 11 (rtU m ps)) (kk : Q (annF m ps ext net) σ) : F_Up_announcementFault NF 10 (b2i ext) net σ Q := by
  have t1 : (1 : Int32).toNatClampNeg = 1 := by decide
  have t2 : (2 : Int32).toNatClampNeg = 2 := by decide
  have t3 : (3 : Int32).toNatClampNeg = 3 := by decide
  have t5 : (5 : Int32).toNatClampNeg = 5 := by decide
  unfold annF at kk
  unfold F_Up_announcementFault
  rw [gr_10_1 hG, nf_14, t1, t2, t3, t5, hS 1 (by omega), hS 2 (by omega), hS 3 (by omega), hS 5 (by omega)]
  have no : ∀ {x : Nat}, (b2i (decide (x ∈ ps.map m)) = 0) ↔ x ∉ ps.map m := fun {x} => by rw [b2i_ne, decide_eq_false_iff_not]
  have fin : ¬ (1 ∉ ps.map m ∨ 2 ∉ ps.map m ∨ 3 ∉ ps.map m ∨ (ext = false ∧ 5 ∉ ps.map m)) → B_Up_announcementFault_42 NF Q 10 (b2i ext) net σ := fun hc => by
    rw [if_neg hc] at kk
    unfold B_Up_announcementFault_42
    rw [gr_10_0 hG]
    cases ext with
    | false => exact w_t rfl (by simpa using kk)
    | true =>
      refine w_f (by decide) (P_Ro_firstNetwork (RS_up hG) hr ⟨fun z => ?_, fun z => ?_⟩)
      · rw [if_neg (fun y => y.2 z)] at kk; exact kk
      · rw [if_pos ⟨rfl, z⟩] at kk; exact kk
  have bad3 : (1 ∉ ps.map m ∨ 2 ∉ ps.map m ∨ 3 ∉ ps.map m ∨ (ext = false ∧ 5 ∉ ps.map m)) → Q 3 σ := fun hc => by rw [if_pos hc] at kk; exact kk
  refine ⟨vpl rfl, fun z => bad3 (Or.inl (no.mp z)), fun z1 => ⟨vpl rfl, fun z => bad3 (Or.inr (Or.inl (no.mp z))), fun z2 => ⟨vpl rfl, fun z => bad3 (Or.inr (Or.inr (Or.inl (no.mp z)))), fun z3 => ?_⟩⟩⟩
  have n1 : ¬ 1 ∉ ps.map m := fun z => z1 (no.mpr z)
  have n2 : ¬ 2 ∉ ps.map m := fun z => z2 (no.mpr z)
  have n3 : ¬ 3 ∉ ps.map m := fun z => z3 (no.mpr z)
  refine ⟨fun ze => fin (fun z => ?_), fun ze => ⟨vpl rfl, fun z5 => fin (fun z => ?_), fun z5 => bad3 (Or.inr (Or.inr (Or.inr ⟨b2i_ne.mp ze, no.mp z5⟩)))⟩⟩
  · rcases z with z | z | z | z
    · exact n1 z
    · exact n2 z
    · exact n3 z
    · rw [z.1] at ze; exact ze rfl
  · rcases z with z | z | z | z
    · exact n1 z
    · exact n2 z
    · exact n3 z
    · exact z5 (no.mpr z.2)
end FA
