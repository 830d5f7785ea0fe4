/-! the model: the test of metrics, the best route -/
def f7 : Nat → Int32 := fun _ => 0
def m7 : Nat → Nat → Int32 := fun _ w => if w = 4 then -1 else nI w
theorem beatB_congr {C C' : Nat → Bool} {ms : Nat → Nat → Int32} {fn : Nat → Int32} {t w : Nat} (h : ∀ w, w < 5 → C w = C' w) : beatB C ms fn t w = beatB C' ms fn t w := by
  apply Bool.eq_iff_iff.mpr
  rw [beat_iff, beat_iff]
  constructor
  · rintro ⟨q, q1, q2, q3⟩
    exact ⟨q, q1, by rw [← h q q1]; exact q2, q3⟩
  · rintro ⟨q, q1, q2, q3⟩
    exact ⟨q, q1, by rw [h q q1]; exact q2, q3⟩
theorem stepC_congr {C C' : Nat → Bool} {ms : Nat → Nat → Int32} {fn : Nat → Int32} {t : Nat} (h : ∀ w, w < 5 → C w = C' w) : ∀ w, w < 5 → stepC ms fn t C w = stepC ms fn t C' w := fun w hw => by
  unfold stepC
  rw [h w hw, beatB_congr h]
def fstO (C : Nat → Bool) : Option Nat := if C 0 then some 0 else if C 1 then some 1 else if C 2 then some 2 else if C 3 then some 3 else if C 4 then some 4 else none
theorem fstO_congr {C C' : Nat → Bool} (h : ∀ w, w < 5 → C w = C' w) : fstO C = fstO C' := by
  unfold fstO
  rw [h 0 (by omega), h 1 (by omega), h 2 (by omega), h 3 (by omega), h 4 (by omega)]
def c5 (x0 x1 x2 x3 x4 : Bool) : Nat → Bool := fun w => if w = 0 then x0 else if w = 1 then x1 else if w = 2 then x2 else if w = 3 then x3 else x4
theorem fst_key : ∀ x0 x1 x2 x3 x4 : Bool, fstO (stepC m7 f7 7 (c5 x0 x1 x2 x3 x4)) = winO (c5 x0 x1 x2 x3 x4) := by decide +kernel
theorem fst_win {C : Nat → Bool} : fstO (stepC m7 f7 7 C) = winO C := by
  have e : ∀ w, w < 5 → C w = c5 (C 0) (C 1) (C 2) (C 3) (C 4) w := fun w hw => by
    rcases (by omega : w = 0 ∨ w = 1 ∨ w = 2 ∨ w = 3 ∨ w = 4) with rfl | rfl | rfl | rfl | rfl <;> rfl
  rw [fstO_congr (stepC_congr e), winO_congr e]
  exact fst_key _ _ _ _ _
/-- bits: who is beaten -/
def bmk (D : Nat → Bool) : Nat → Nat
  | 0 => 0
  | i + 1 => bmk D i + (if D i then 2 ^ i else 0)
theorem bmk_lt {D : Nat → Bool} : ∀ i, bmk D i < 2 ^ i
  | 0 => Nat.zero_lt_one
  | i + 1 => by
    have := bmk_lt (D := D) i
    unfold bmk
    rw [Nat.pow_succ]
    split <;> omega
theorem bmk_key : ∀ x0 x1 x2 x3 x4 : Bool, ∀ i, i < 5 → ((nI (bmk (c5 x0 x1 x2 x3 x4) 5) >>> (nI i &&& 31)) &&& 1 = 0 ↔ c5 x0 x1 x2 x3 x4 i = false) := by decide +kernel
theorem bmk_congr {D D' : Nat → Bool} (h : ∀ w, w < 5 → D w = D' w) : bmk D 5 = bmk D' 5 := by
  simp only [bmk, h 0 (by omega), h 1 (by omega), h 2 (by omega), h 3 (by omega), h 4 (by omega)]
theorem bmk_bit {D : Nat → Bool} {i : Nat} (hi : i < 5) : (nI (bmk D 5) >>> (nI i &&& 31)) &&& 1 = 0 ↔ D i = false := by
  have e : ∀ w, w < 5 → D w = c5 (D 0) (D 1) (D 2) (D 3) (D 4) w := fun w hw => by
    rcases (by omega : w = 0 ∨ w = 1 ∨ w = 2 ∨ w = 3 ∨ w = 4) with rfl | rfl | rfl | rfl | rfl <;> rfl
  rw [bmk_congr e, e i hi]
  exact bmk_key _ _ _ _ _ i hi
theorem shl_bit : ∀ i, i < 5 → (1 : Int32) <<< (nI i &&& 31) = nI (2 ^ i) := by decide +kernel
section MB1
variable {μ σ : rs_Mem} {a : Ab} {k w : Nat} {C : Nat → Bool}
theorem P_Mo_firstOf {r : Nat} {rt : Rt} {e : Bool} {Q : Int32 → rs_Mem → Prop} (hG : Gr σ) (hr : r ≤ 60) (h : MRt σ r rt e) (kk : Q (rFst rt) σ) : F_Mo_firstOf NF 281 (nI r) σ Q := by
  obtain ⟨a1, a2, a3, -, -, -, -, -, -, a10, -⟩ := h
  have e8 : (8 : Int32) = nI 8 := by decide
  unfold F_Mo_firstOf
  rw [gr_281_26 hG, nf_305, gr_281_27 hG, nf_306, e8, nI_mul, nIc (n := r) (by omega), nIc (n := 8 * r) (by omega), a2]
  refine ⟨vpn (by omega) (by omega), ?_⟩
  unfold rFst at kk
  cases hl : rtA rt with
  | nil => rw [hl] at kk; exact v_t (by decide) kk
  | cons x t =>
    have hlen : (rtA rt).length = t.length + 1 := by rw [hl]; rfl
    rw [← hl]
    refine v_f (nI_ne0 (by omega) (by omega)) ⟨vpn (by omega) (by omega), ?_⟩
    have h0 := a3 0 (by omega)
    rw [Nat.add_zero] at h0
    rw [h0]
    have : (rtA rt)[0]'(by omega) = (rtA rt).headD 0 := by simp [hl]
    rw [this]; exact kk
theorem P_Mo_isBeaten {Q : Int32 → rs_Mem → Prop} (h : MR μ σ a) (hW : WF a) (hk : k < (aPre a).length) (hw : w < 5) (hC : MC σ C) (hsub : ∀ w, w < 5 → C w = true → C0 a k w = true) (hCw : C w = true)
    (h1 : beatB C (msA a k) (fnA a k) 3 w = true → Q 1 σ) (h0 : beatB C (msA a k) (fnA a k) 3 w = false → Q 0 σ) : F_Mo_isBeaten NF 281 (nI w) (nI k) σ Q := by
  have e5 : (5 : Int32) = nI 5 := by decide
  have e12 : (12 : Int32) = nI 12 := by decide
  have hk12 : k < 12 := by have := h.2.1.2.1; omega
  have cand : ∀ w, w < 5 → C w = true → ∃ c, cnd a k w = some c := fun w hw hc => by
    have := hsub w hw hc
    unfold C0 at this
    exact Option.isSome_iff_exists.mp this
  have route : ∀ q, q < 5 → C q = true → ∃ c e, cnd a k q = some c ∧ MRt σ (12 * q + k) c.1 e ∧ (rtM c.1 = -1 ∨ 0 ≤ rtM c.1) ∧ msA a k 3 q = (if rtM c.1 = -1 then 0 else rtM c.1) ∧ fnA a k q = rFst c.1 := fun q hq hcq => by
    obtain ⟨c, hc⟩ := cand q hq hcq
    obtain ⟨⟨e, hr⟩, -, hm⟩ := cnd_route h hW hk12 hq hc
    refine ⟨c, e, hc, hr, hm, ?_, ?_⟩
    · unfold msA; rw [hc]; rfl
    · unfold fnA; rw [hc]
  have vr : ∀ q, q < 5 → vp_in (nI (12 * q + k)) 61 := fun q hq => vpn (by omega) (by omega)
  obtain ⟨c, e, -, hr, hm, mw, fw⟩ := route w hw hCw
  have key : ∀ d i (b : Bool), i + d = 5 → (b = true ↔ ∃ q, q < i ∧ C q = true ∧ bt (msA a k) (fnA a k) 3 q w) → L_Mo_isBeaten_5 NF Q (d + 1) 281 (nI w) (nI k) (b2i b) (nI i) σ := by
    intro d
    induction d with
    | zero =>
      intro i b hi hb
      have e : i = 5 := by omega
      subst e
      refine w_t (by decide) ⟨by cases b <;> decide, ?_⟩
      cases b with
      | true => exact h1 (beat_iff.mpr (hb.mp rfl))
      | false =>
        refine h0 ?_
        cases hbb : beatB C (msA a k) (fnA a k) 3 w with
        | false => rfl
        | true => have := hb.mpr (beat_iff.mp hbb); cases this
    | succ d ih =>
      intro i b hi hb
      have hi5 : i < 5 := by omega
      have yes : (∃ q, q < i + 1 ∧ C q = true ∧ bt (msA a k) (fnA a k) 3 q w) → B_Mo_isBeaten_120 NF (L_Mo_isBeaten_5 NF Q (d + 1)) Q 281 (nI w) (nI k) (nI i) σ := fun hy x ex => by
        subst ex
        rw [nI_1]
        exact ih (i + 1) true (by omega) ⟨fun _ => hy, fun _ => rfl⟩
      have no : b = false → ¬ (C i = true ∧ bt (msA a k) (fnA a k) 3 i w) → B_Mo_isBeaten_124 NF (L_Mo_isBeaten_5 NF Q (d + 1)) Q 281 (nI w) (nI k) (nI i) σ := fun hbf hn x ex => by
        subst ex
        rw [nI_1]
        refine ih (i + 1) false (by omega) ⟨(fun z => by cases z), fun ⟨q, q1, q2⟩ => ?_⟩
        by_cases eq : q = i
        · subst eq; exact absurd q2 hn
        · have := hb.mpr ⟨q, by omega, q2⟩
          rw [hbf] at this; cases this
      have last : ∀ mine other : Int32, mine = msA a k 3 w → (C i = true → other = msA a k 3 i) → B_Mo_isBeaten_73 NF (L_Mo_isBeaten_5 NF Q (d + 1)) Q 281 (nI w) (nI k) (b2i b) (nI i) mine other σ := fun mine other hmine hother => by
        unfold B_Mo_isBeaten_73
        cases b with
        | true =>
          obtain ⟨q, q1, q2⟩ := hb.mp rfl
          exact v_f (by decide) (yes ⟨q, by omega, q2⟩)
        | false =>
          refine v_t rfl ?_
          rw [gr_281_40 h.1, nf_319, nIc (n := i) (by omega), hC i hi5]
          refine ⟨vpn (by omega) (by omega), fun hz => no rfl (fun z => by rw [b2i_ne.mp hz] at z; cases z.1), fun hz => ?_⟩
          have hCi : C i = true := by
            cases hc : C i with
            | true => rfl
            | false => rw [hc] at hz; exact absurd rfl hz
          obtain ⟨ci, ei, -, hri, -, mi, fi⟩ := route i hi5 hCi
          rw [e12, nI_mul, nI_add, nI_mul, nI_add]
          refine P_Mo_firstOf h.1 (by omega) hr (P_Mo_firstOf h.1 (by omega) hri ?_)
          have ho := hother hCi
          refine ⟨fun hne => no rfl (fun z => hne ?_), fun he => ⟨fun hle => no rfl (fun z => ?_), fun hgt => yes ⟨i, by omega, hCi, ?_, fun _ => ?_⟩⟩⟩
          · have := z.2.2 rfl
            rw [fw, fi] at this
            exact this.symm
          · have := z.2.1
            rw [← hmine, ← ho] at this
            grind
          · rw [← hmine, ← ho]; grind
          · rw [fw, fi]; exact he.symm
      have mid : ∀ mine : Int32, mine = msA a k 3 w → B_Mo_isBeaten_40 NF (L_Mo_isBeaten_5 NF Q (d + 1)) Q 281 (nI w) (nI k) (b2i b) (nI i) mine σ := fun mine hmine => by
        unfold B_Mo_isBeaten_40
        rw [gr_281_29 h.1, nf_308, e12, nI_mul, nI_add, nIc (n := 12 * i + k) (by omega)]
        refine ⟨vr i hi5, fun hz => ⟨vr i hi5, last mine _ hmine (fun hCi => ?_)⟩, fun hz => last mine 0 hmine (fun hCi => ?_)⟩
        · obtain ⟨ci, ei, -, hri, hmi, mi, fi⟩ := route i hi5 hCi
          have := hri.2.2.2.2.1
          rw [this] at hz ⊢
          rw [mi, if_neg (fun q => by rw [q] at hz; exact absurd hz (by decide))]
        · obtain ⟨ci, ei, -, hri, hmi, mi, fi⟩ := route i hi5 hCi
          have := hri.2.2.2.2.1
          rw [this] at hz
          rw [mi, if_pos (hmi.resolve_right hz)]
      refine w_f (fun h => by rw [e5, nIle (by omega) (by omega)] at h; omega) ?_
      rw [gr_281_29 h.1, nf_308, e12, nI_mul, nI_add, nIc (n := 12 * w + k) (by omega), hr.2.2.2.2.1]
      refine ⟨vr w hw, fun hz => ⟨vr w hw, mid _ ?_⟩, fun hz => mid _ ?_⟩
      · rw [mw, if_neg (fun q => by rw [q] at hz; exact absurd hz (by decide))]
      · rw [mw, if_pos (hm.resolve_right hz)]
  exact ⟨_, key 5 0 false rfl ⟨(fun z => by cases z), fun ⟨q, q1, _⟩ => by omega⟩⟩
theorem P_Mo_dropBeaten {Q : rs_Mem → Prop} (h : MR μ σ a) (hW : WF a) (hk : k < (aPre a).length) (hC : MC σ C) (hsub : ∀ w, w < 5 → C w = true → C0 a k w = true)
    (kk : ∀ τ, MC τ (stepC (msA a k) (fnA a k) 3 C) → MR μ τ a → Fp FpC σ τ → Q τ) : F_Mo_dropBeaten NF 281 (nI k) σ Q := by
  have e5 : (5 : Int32) = nI 5 := by decide
  obtain ⟨D, hD⟩ : ∃ D : Nat → Bool, D = fun w => C w && beatB C (msA a k) (fnA a k) 3 w := ⟨_, rfl⟩
  have key2 : ∀ d i τ, i + d = 5 → MC τ (fun w => if w < i then stepC (msA a k) (fnA a k) 3 C w else C w) → MR μ τ a → Fp FpC σ τ → L_Mo_dropBeaten_45 NF Q (d + 1) 281 (nI (bmk D 5)) (nI i) τ := by
    intro d
    induction d with
    | zero =>
      intro i τ hi g1 g2 g3
      have e : i = 5 := by omega
      subst e
      refine w_t (by decide) (kk τ (fun w hw => ?_) g2 g3)
      have := g1 w hw
      simp only [if_pos hw] at this
      exact this
    | succ d ih =>
      intro i τ hi g1 g2 g3
      refine w_f (fun h => by rw [e5, nIle (by omega) (by omega)] at h; omega) ?_
      have d1 := g1 i (by omega)
      simp only [if_neg (Nat.lt_irrefl i)] at d1
      have fin : ∀ b : Bool, b = stepC (msA a k) (fnA a k) 3 C i → L_Mo_dropBeaten_45 NF Q (d + 1) 281 (nI (bmk D 5)) (nI (i + 1)) (rs_sI τ 319 i (b2i b)) := fun b hb => by
        have f1 : Fp FpC τ (rs_sI τ 319 i (b2i b)) := Fp.rf.sI rfl
        refine ih (i + 1) _ (by omega) (fun w hw => ?_) (g2.fc f1 g2.1) (g3.tr f1)
        by_cases e : w = i
        · subst e
          simp only [if_pos (Nat.lt_succ_self w)]
          rw [← hb]; exact I_same
        · simp only [ite_lt e]
          exact (I_nk e).trans (g1 w hw)
      have lo : stepC (msA a k) (fnA a k) 3 C i = false → B_Mo_dropBeaten_76 NF (L_Mo_dropBeaten_45 NF Q (d + 1)) Q 281 (nI (bmk D 5)) (nI i) 319 (nI i) τ := fun hf => by
        refine ⟨by rw [nf_319]; exact vpn (by omega) (by omega), fun σ2 e2 x ex => ?_⟩
        subst ex
        rw [nIc (by omega)] at e2
        rw [nI_1, e2]
        exact fin false hf.symm
      rw [gr_281_40 g2.1, nf_319, nIc (n := i) (by omega), d1, bmk_bit (by omega)]
      refine ⟨vpn (by omega) (by omega), fun hz => lo ?_, fun hz => ⟨fun hb => lo ?_, fun hb => ⟨vpn (by omega) (by omega), fun σ2 e2 x ex => ?_⟩⟩⟩
      · unfold stepC; rw [b2i_ne.mp hz]; rfl
      · have hDi : D i = true := by
          cases hd : D i with
          | true => rfl
          | false => exact absurd hd hb
        rw [hD] at hDi
        simp only [Bool.and_eq_true] at hDi
        unfold stepC; rw [hDi.2]; simp
      · subst ex
        rw [nI_1, e2]
        refine fin true ?_
        have hCi : C i = true := by
          cases hc : C i with
          | true => rfl
          | false => rw [hc] at hz; exact absurd rfl hz
        rw [hD] at hb
        simp only [hCi, Bool.true_and] at hb
        unfold stepC; rw [hb, hCi]; rfl
  have key : ∀ d i, i + d = 5 → L_Mo_dropBeaten_4 NF Q (d + 1) 281 (nI k) (nI (bmk D i)) (nI i) σ := by
    intro d
    induction d with
    | zero =>
      intro i hi
      have e : i = 5 := by omega
      subst e
      exact w_t (by decide) ⟨_, key2 5 0 σ rfl (fun w hw => by simp only [if_neg (Nat.not_lt_zero w)]; exact hC w hw) h Fp.rf⟩
    | succ d ih =>
      intro i hi
      have hi5 : i < 5 := by omega
      refine w_f (fun h => by rw [e5, nIle (by omega) (by omega)] at h; omega) ?_
      have b35 : ∀ y : Nat, y = (if D i then 2 ^ i else 0) → B_Mo_dropBeaten_35 NF (L_Mo_dropBeaten_4 NF Q (d + 1)) Q 281 (nI k) (nI i) (nI (bmk D i)) (nI y) σ := fun y hy x ex z ez => by
        subst ez
        rw [nI_add] at ex
        subst ex
        rw [nI_1, hy]
        exact ih (i + 1) (by omega)
      have b34 : D i = false → B_Mo_dropBeaten_34 NF (L_Mo_dropBeaten_4 NF Q (d + 1)) Q 281 (nI k) (nI i) (nI (bmk D i)) σ := fun hd => by
        unfold B_Mo_dropBeaten_34
        have := b35 0 (by rw [hd]; rfl)
        exact this
      rw [gr_281_40 h.1, nf_319, nIc (n := i) (by omega), hC i hi5]
      refine ⟨vpn (by omega) (by omega), fun hz => b34 (by rw [hD]; simp only [b2i_ne.mp hz, Bool.false_and]), fun hz => ?_⟩
      have hCi : C i = true := by
        cases hc : C i with
        | true => rfl
        | false => rw [hc] at hz; exact absurd rfl hz
      refine P_Mo_isBeaten h hW hk hi5 hC hsub hCi (fun hb => w_f (by decide) ?_) (fun hb => w_t rfl (b34 (by rw [hD]; simp only [hb, Bool.and_false])))
      rw [shl_bit i hi5]
      exact b35 _ (by rw [hD]; simp only [hb, hCi, Bool.and_self, if_true])
  exact ⟨_, key 5 0 rfl⟩
/-- the tests by a worth in general -/
theorem P_keepL {t : Nat} {ms : Nat → Nat → Int32} {fn : Nat → Int32} {Q : rs_Mem → Prop} (h : MR μ σ a) (t3 : t ≠ 3) (hC : MC σ C)
    (wo : ∀ (w : Nat) (τ : rs_Mem) (Q : Int32 → rs_Mem → Prop), w < 5 → C w = true → MR μ τ a → Q (ms t w) τ → F_Mo_worth NF 281 (nI t) (nI w) (nI k) τ Q)
    (kk : ∀ τ, MC τ (stepC ms fn t C) → MR μ τ a → Fp FpC σ τ → Q τ) : F_Mo_keepLeast NF 281 (nI t) (nI k) σ Q := by
  have e5 : (5 : Int32) = nI 5 := by decide
  have key2 : ∀ lst : Int32, (∀ w, w < 5 → C w = true → (ms t w = lst ↔ beatB C ms fn t w = false)) → ∀ d i τ, i + d = 5 → MC τ (fun w => if w < i then stepC ms fn t C w else C w) → MR μ τ a → Fp FpC σ τ → L_Mo_keepLeast_59 NF Q (d + 1) 281 (nI t) (nI k) lst (nI i) τ := by
    intro lst hl d
    induction d with
    | zero =>
      intro i τ hi g1 g2 g3
      have e : i = 5 := by omega
      subst e
      refine w_t (by decide) (kk τ (fun w hw => ?_) g2 g3)
      have := g1 w hw
      simp only [if_pos hw] at this
      exact this
    | succ d ih =>
      intro i τ hi g1 g2 g3
      refine w_f (fun h => by rw [e5, nIle (by omega) (by omega)] at h; omega) ?_
      have d1 := g1 i (by omega)
      simp only [if_neg (Nat.lt_irrefl i)] at d1
      have fin : ∀ b : Bool, b = stepC ms fn t C i → L_Mo_keepLeast_59 NF Q (d + 1) 281 (nI t) (nI k) lst (nI (i + 1)) (rs_sI τ 319 i (b2i b)) := fun b hb => by
        have f1 : Fp FpC τ (rs_sI τ 319 i (b2i b)) := Fp.rf.sI rfl
        refine ih (i + 1) _ (by omega) (fun w hw => ?_) (g2.fc f1 g2.1) (g3.tr f1)
        by_cases e : w = i
        · subst e
          simp only [if_pos (Nat.lt_succ_self w)]
          rw [← hb]; exact I_same
        · simp only [ite_lt e]
          exact (I_nk e).trans (g1 w hw)
      have lo : stepC ms fn t C i = false → B_Mo_keepLeast_97 NF (L_Mo_keepLeast_59 NF Q (d + 1)) Q 281 (nI t) (nI k) lst (nI i) 319 (nI i) τ := fun hf => by
        refine ⟨by rw [nf_319]; exact vpn (by omega) (by omega), fun σ2 e2 x ex => ?_⟩
        subst ex
        rw [nIc (by omega)] at e2
        rw [nI_1, e2]
        exact fin false hf.symm
      rw [gr_281_40 g2.1, nf_319, nIc (by omega), d1]
      refine ⟨vpn (by omega) (by omega), fun hz => lo ?_, fun hz => ?_⟩
      · unfold stepC; rw [b2i_ne.mp hz]; rfl
      · have hCi : C i = true := by
          cases hc : C i with
          | true => rfl
          | false => rw [hc] at hz; exact absurd rfl hz
        refine wo i τ _ (by omega) hCi g2 ⟨fun hne => lo ?_, fun he => ⟨vpn (by omega) (by omega), fun σ2 e2 x ex => ?_⟩⟩
        · have : beatB C ms fn t i = true := by
            cases hb : beatB C ms fn t i with
            | true => rfl
            | false => exact absurd ((hl i (by omega) hCi).mpr hb) hne
          unfold stepC; rw [this]; simp
        · subst ex
          rw [nI_1, e2]
          refine fin true ?_
          unfold stepC; rw [(hl i (by omega) hCi).mp he, hCi]; rfl
  have key : ∀ d i (lst : Int32), i + d = 5 → (∀ w, w < i → C w = true → lst ≤ ms t w) → (lst = 2147483647 ∨ ∃ w, w < i ∧ C w = true ∧ ms t w = lst) → L_Mo_keepLeast_7 NF Q (d + 1) 281 (nI t) (nI k) lst (nI i) σ := by
    intro d
    induction d with
    | zero =>
      intro i lst hi g1 g2
      have e : i = 5 := by omega
      subst e
      refine w_t (by decide) ⟨_, key2 lst (fun w hw hc => ?_) 5 0 σ rfl (fun w hw => by simp only [if_neg (Nat.not_lt_zero w)]; exact hC w hw) h Fp.rf⟩
      have hlw := g1 w hw hc
      constructor
      · intro he
        cases hb : beatB C ms fn t w with
        | false => rfl
        | true =>
          obtain ⟨q, q1, q2, q3, -⟩ := beat_iff.mp hb
          have := g1 q q1 q2
          grind
      · intro hb
        by_cases he : ms t w = lst
        · exact he
        · exfalso
          rcases g2 with g2 | ⟨q, q1, q2, q3⟩
          · have h9 : ∀ x : Int32, x ≤ 2147483647 := fun x => by grind
            have := h9 (ms t w)
            grind
          · have : beatB C ms fn t w = true := beat_iff.mpr ⟨q, q1, q2, by grind, fun e => absurd e t3⟩
            rw [hb] at this; cases this
    | succ d ih =>
      intro i lst hi g1 g2
      refine w_f (fun h => by rw [e5, nIle (by omega) (by omega)] at h; omega) ?_
      have same : (C i = true → lst ≤ ms t i) → L_Mo_keepLeast_7 NF Q (d + 1) 281 (nI t) (nI k) lst (nI (i + 1)) σ := fun hs => by
        refine ih (i + 1) lst (by omega) (fun w hw hc => ?_) (g2.imp id (fun ⟨q, q1, q2⟩ => ⟨q, by omega, q2⟩))
        by_cases e : w = i
        · subst e; exact hs hc
        · exact g1 w (by omega) hc
      rw [gr_281_40 h.1, nf_319, nIc (by omega), hC i (by omega)]
      refine ⟨vpn (by omega) (by omega), fun hz => ?_, fun hz => ?_⟩
      · have hCi := b2i_ne.mp hz
        refine ⟨fun _ x ex => ?_, fun hn => absurd (by grind : lst ≤ lst) hn⟩
        subst ex
        rw [nI_1]
        exact same (fun hc => by rw [hCi] at hc; cases hc)
      · have hCi : C i = true := by
          cases hc : C i with
          | true => rfl
          | false => rw [hc] at hz; exact absurd rfl hz
        refine wo i σ _ (by omega) hCi h ⟨fun hle x ex => ?_, fun hgt x ex => ?_⟩
        · subst ex
          rw [nI_1]
          exact same (fun _ => hle)
        · subst ex
          rw [nI_1]
          refine ih (i + 1) (ms t i) (by omega) (fun w hw hcw => ?_) (Or.inr ⟨i, by omega, hCi, rfl⟩)
          by_cases e : w = i
          · subst e; grind
          · have := g1 w (by omega) hcw
            grind
  exact ⟨_, key 5 0 2147483647 rfl (fun w hw => by omega) (Or.inl rfl)⟩
theorem P_Mo_worth7 {Q : Int32 → rs_Mem → Prop} (hw : w < 5) (hk : k < 12) (kk : Q (m7 7 w) σ) : F_Mo_worth NF 281 (nI 7) (nI w) (nI k) σ Q := by
  have e4 : (4 : Int32) = nI 4 := by decide
  have n : ∀ j : Nat, j < 100 → j ≠ 7 → ∀ c : Int32, c = nI j → ¬ nI 7 = c := fun j h1 h2 c hc => by rw [hc, nIeq (by omega) (by omega)]; omega
  unfold m7 at kk
  intro x ex
  refine v_f (by decide) (v_f (by decide) (v_f (by decide) (v_f (by decide) (v_f (by decide) (v_f (by decide) ?_)))))
  rw [e4, nIeq (by omega) (by omega)]
  refine ⟨fun z => ?_, fun z => ?_⟩
  · rw [if_neg z] at kk; exact kk
  · rw [if_pos z] at kk; exact kk
theorem P_Mo_bestOf {Q : Int32 → rs_Mem → Prop} (h : MR μ σ a) (hW : WF a) (hk : k < (aPre a).length) (kk : ∀ τ, MR μ τ a → Fp FpC σ τ → Q (oI (bestO a k)) τ) : F_Mo_bestOf NF 281 (nI k) σ Q := by
  have e5 : (5 : Int32) = nI 5 := by decide
  have e8 : (8 : Int32) = nI 8 := by decide
  have e12 : (12 : Int32) = nI 12 := by decide
  have e3 : (3 : Int32) = nI 3 := by decide
  have e4 : (4 : Int32) = nI 4 := by decide
  have hk12 : k < 12 := by have := h.2.1.2.1; omega
  have key3 : ∀ C τ, MC τ C → MR μ τ a → Fp FpC σ τ → fstO C = bestO a k → ∀ d i, i + d = 5 → (∀ w, w < i → C w = false) → L_Mo_bestOf_106 NF Q (d + 1) 281 (nI i) τ := by
    intro C τ g1 g2 g3 g4 d
    have kk2 := kk τ g2 g3
    rw [← g4] at kk2
    unfold fstO at kk2
    induction d with
    | zero =>
      intro i hi g
      have e : i = 5 := by omega
      subst e
      refine w_t (by decide) ?_
      simp only [g 0 (by omega), g 1 (by omega), g 2 (by omega), g 3 (by omega), g 4 (by omega), Bool.false_eq_true, if_false] at kk2
      exact kk2
    | succ d ih =>
      intro i hi g
      refine w_f (fun h => by rw [e5, nIle (by omega) (by omega)] at h; omega) ?_
      rw [gr_281_40 g2.1, nf_319, nIc (by omega), g1 i (by omega)]
      refine ⟨vpn (by omega) (by omega), fun hz x ex => ?_, fun hz => ?_⟩
      · subst ex
        rw [nI_1]
        exact ih (i + 1) (by omega) (fun w hw => by
          by_cases e : w = i
          · subst e; exact b2i_ne.mp hz
          · exact g w (by omega))
      · have hCi : C i = true := by
          cases hc : C i with
          | true => rfl
          | false => rw [hc] at hz; exact absurd rfl hz
        rcases (by omega : i = 0 ∨ i = 1 ∨ i = 2 ∨ i = 3 ∨ i = 4) with rfl | rfl | rfl | rfl | rfl
        · simp only [hCi, if_true] at kk2; exact kk2
        · simp only [g 0 (by omega), hCi, Bool.false_eq_true, if_false, if_true] at kk2; exact kk2
        · simp only [g 0 (by omega), g 1 (by omega), hCi, Bool.false_eq_true, if_false, if_true] at kk2; exact kk2
        · simp only [g 0 (by omega), g 1 (by omega), g 2 (by omega), hCi, Bool.false_eq_true, if_false, if_true] at kk2; exact kk2
        · simp only [g 0 (by omega), g 1 (by omega), g 2 (by omega), g 3 (by omega), hCi, Bool.false_eq_true, if_false, if_true] at kk2; exact kk2
  have key2 : ∀ d t τ, t + d = 7 → MC τ (runC (msA a k) (fnA a k) t (C0 a k)) → MR μ τ a → Fp FpC σ τ → L_Mo_bestOf_73 NF Q (d + 2) 281 (nI k) (nI t) τ := by
    intro d
    induction d with
    | zero =>
      intro t τ ht g1 g2 g3
      have e : t = 7 := by omega
      subst e
      refine w_f (by decide) (v_f (by decide) ?_)
      refine P_keepL (ms := m7) (fn := f7) g2 (by omega) g1 (fun w ρ Q2 hw _ _ q => P_Mo_worth7 hw hk12 q) (fun ρ r1 r2 r3 x ex => ?_)
      subst ex
      refine w_t (by decide) ⟨_, key3 _ ρ r1 r2 (g3.tr r3) fst_win 5 0 rfl (fun w hw => by omega)⟩
    | succ d ih =>
      intro t τ ht g1 g2 g3
      have hsub : ∀ w, w < 5 → runC (msA a k) (fnA a k) t (C0 a k) w = true → C0 a k w = true := fun w _ hc => runC_sub t hc
      refine w_f (fun h => by rw [e8, nIle (by omega) (by omega)] at h; omega) ⟨fun h3 => ?_, fun h3 => ?_⟩
      · rw [e3, nIeq (by omega) (by omega)] at h3
        refine P_Mo_keepLeast g2 hW hk (by omega) g1 hsub (fun ρ r1 r2 r3 x ex => ?_)
        subst ex
        rw [nI_1]
        exact ih (t + 1) ρ (by omega) r1 r2 (g3.tr r3)
      · rw [e3, nIeq (by omega) (by omega)] at h3
        subst h3
        refine P_Mo_dropBeaten g2 hW hk g1 hsub (fun ρ r1 r2 r3 x ex => ?_)
        subst ex
        rw [nI_1]
        exact ih 4 ρ (by omega) r1 r2 (g3.tr r3)
  have key : ∀ d i τ, i + d = 5 → (∀ w, w < i → rs_I τ 319 w = b2i (C0 a k w)) → MR μ τ a → Fp FpC σ τ → L_Mo_bestOf_2 NF Q (d + 1) 281 (nI k) (nI i) τ := by
    intro d
    induction d with
    | zero =>
      intro i τ hi g1 g2 g3
      have e : i = 5 := by omega
      subst e
      exact w_t (by decide) ⟨_, key2 7 0 τ rfl (fun w hw => g1 w hw) g2 g3⟩
    | succ d ih =>
      intro i τ hi g1 g2 g3
      have hi5 : i < 5 := by omega
      refine w_f (fun h => by rw [e5, nIle (by omega) (by omega)] at h; omega) (fun x ex => ?_)
      rw [e12, nI_mul, nI_add] at ex
      subst ex
      have fin : ∀ b : Bool, b = C0 a k i → L_Mo_bestOf_2 NF Q (d + 1) 281 (nI k) (nI (i + 1)) (rs_sI τ 319 i (b2i b)) := fun b hb => by
        have f1 : Fp FpC τ (rs_sI τ 319 i (b2i b)) := Fp.rf.sI rfl
        refine ih (i + 1) _ (by omega) (fun w hw => ?_) (g2.fc f1 g2.1) (g3.tr f1)
        by_cases e : w = i
        · subst e
          rw [← hb]; exact I_same
        · exact (I_nk e).trans (g1 w (by omega))
      have yes : C0 a k i = true → B_Mo_bestOf_59 NF (L_Mo_bestOf_2 NF Q (d + 1)) Q 281 (nI k) (nI i) 319 (nI i) τ := fun hf => by
        refine ⟨by rw [nf_319]; exact vpn (by omega) (by omega), fun σ2 e2 x ex => ?_⟩
        subst ex
        rw [nIc (by omega)] at e2
        rw [nI_1, e2]
        exact fin true hf.symm
      have no : C0 a k i = false → B_Mo_bestOf_63 NF (L_Mo_bestOf_2 NF Q (d + 1)) Q 281 (nI k) (nI i) 319 (nI i) τ := fun hf => by
        refine ⟨by rw [nf_319]; exact vpn (by omega) (by omega), fun σ2 e2 x ex => ?_⟩
        subst ex
        rw [nIc (by omega)] at e2
        rw [nI_1, e2]
        exact fin false hf.symm
      rw [gr_281_40 g2.1, gr_281_24 g2.1, nf_303, nIc (n := 12 * i + k) (by omega), e4, nI_lit (by omega) (by omega)]
      refine ⟨vpn (by omega) (by omega), ?_⟩
      by_cases h4 : i = 4
      · subst h4
        have o4 := (g2.2.2.1.1 k hk12).1
        rw [show 12 * 4 + k = 48 + k by omega, o4]
        refine ⟨fun hz => no ?_, fun hz => w_t rfl (yes ?_)⟩
        · unfold C0 cnd; rw [if_pos rfl, if_neg (by rw [b2i_ne.mp hz]; decide)]; rfl
        · have ho : aOrg a k = true := by
            cases hc : aOrg a k with
            | true => rfl
            | false => rw [hc] at hz; exact absurd rfl hz
          unfold C0 cnd; rw [if_pos rfl, if_pos ho]; rfl
      · have hi4 : i < 4 := by omega
        obtain ⟨t1, t2, t3, t4⟩ := (g2.2.2.2 i hi4).2.2.2.2.1 k hk12
        rw [t1]
        cases hr : pInc (aPe a i) k with
        | none =>
          refine w_t rfl (no ?_)
          unfold C0 cnd; rw [if_neg h4, hr]; rfl
        | some rt =>
          have hcn : cnd a k i = if bad (aPe a i) k rt (prx a k) then none else some (rt, prf (aPe a i) rt (prx a k), decide (pRole (aPe a i) ≠ 0), pId (aPe a i)) := by unfold cnd; rw [if_neg h4, hr]
          have isbad : bad (aPe a i) k rt (prx a k) → C0 a k i = false := fun hb => by unfold C0; rw [hcn, if_pos hb]; rfl
          refine w_f (show ¬ (1 : Int32) = 0 by decide) (w_f h4 (P_Mo_isBarred g2.1 (by omega) (t2 rt hr) ?_))
          rw [gr_281_35 g2.1, nf_314, t4]
          refine ⟨fun hz => no (isbad (Or.inl ?_)), fun hz => ⟨vpn (by omega) (by omega), fun hd => no (isbad (Or.inr (Or.inl ?_))), fun hd => ?_⟩⟩
          · by_cases q : rBar rt
            · exact q
            · rw [decide_eq_false q] at hz; exact absurd rfl hz
          · cases hc : pDmp (aPe a i) k with
            | true => rfl
            | false => rw [hc] at hd; exact absurd rfl hd
          · have hz := of_decide_eq_false (b2i_ne.mp hz)
            have hd := b2i_ne.mp hd
            refine P_Mo_isRejected g2 hi4 hk (hW.2 i hi4).1 hW.1 ⟨fun ha => no (isbad (Or.inr (Or.inr ?_))), fun ha => yes ?_⟩
            · by_cases q : act (pRul (aPe a i)) (prx a k).1 (prx a k).2 = 0
              · exact q
              · rw [decide_eq_false q] at ha; exact absurd rfl ha
            · have ha := of_decide_eq_false (b2i_ne.mp ha)
              unfold C0
              rw [hcn, if_neg (fun q => ?_)]
              · rfl
              · rcases q with q | q | q
                · exact hz q
                · rw [hd] at q; cases q
                · exact ha q
  exact ⟨_, key 5 0 σ rfl (fun w hw => by omega) h Fp.rf⟩
end MB1
