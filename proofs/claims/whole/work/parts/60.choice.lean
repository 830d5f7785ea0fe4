/-! the choice among candidates -/
def FrC : Nat → Prop := fun u => 16 ≤ u ∧ u ≤ 26
def RC (σ : rs_Mem) (C : Nat → Bool) (ms : Nat → Nat → Int32) (fn : Nat → Int32) : Prop := ∀ w, w < 5 → rs_I σ 26 w = b2i (C w) ∧ (C w = true → rs_I σ 25 w = fn w ∧ ∀ t, t < 7 → rs_I σ (18 + t) w = ms t w)
def bt (ms : Nat → Nat → Int32) (fn : Nat → Int32) (t q w : Nat) : Prop := ms t q < ms t w ∧ (t = 3 → fn q = fn w)
def beatB (C : Nat → Bool) (ms : Nat → Nat → Int32) (fn : Nat → Int32) (t w : Nat) : Bool := (List.range 5).any (fun q => C q && decide (ms t q < ms t w) && (t != 3 || decide (fn q = fn w)))
theorem beat_iff {C : Nat → Bool} {ms : Nat → Nat → Int32} {fn : Nat → Int32} {t w : Nat} : beatB C ms fn t w = true ↔ ∃ q, q < 5 ∧ C q = true ∧ bt ms fn t q w := by
  unfold beatB bt
  simp only [List.any_eq_true, List.mem_range, Bool.and_eq_true, decide_eq_true_eq, Bool.or_eq_true, bne_iff_ne, ne_eq]
  refine ⟨fun ⟨q, h1, ⟨h2, h3⟩, h4⟩ => ⟨q, h1, h2, h3, fun e => h4.resolve_left (fun n => n e)⟩, fun ⟨q, h1, h2, h3, h4⟩ => ⟨q, h1, ⟨h2, h3⟩, ?_⟩⟩
  by_cases e : t = 3
  · exact Or.inr (h4 e)
  · exact Or.inl e
def stepC (ms : Nat → Nat → Int32) (fn : Nat → Int32) (t : Nat) (C : Nat → Bool) : Nat → Bool := fun w => C w && !beatB C ms fn t w
theorem unbeaten {C : Nat → Bool} {ms : Nat → Nat → Int32} {fn : Nat → Int32} {t w : Nat} : ∀ (n : Nat) (q : Nat), (ms t q).toInt + 2147483648 < n → q < 5 → C q = true → bt ms fn t q w → ∃ q', q' < 5 ∧ C q' = true ∧ beatB C ms fn t q' = false ∧ bt ms fn t q' w := by
  intro n
  induction n with
  | zero =>
    intro q h
    have := Int32.le_toInt (ms t q)
    omega
  | succ n ih =>
    intro q h hq hC hb
    by_cases hbe : beatB C ms fn t q = true
    · obtain ⟨q2, h1, h2, h3⟩ := beat_iff.mp hbe
      refine ih q2 ?_ h1 h2 ⟨?_, fun e => (h3.2 e).trans (hb.2 e)⟩
      · have := Int32.lt_iff_toInt_lt.mp h3.1; omega
      · have h5 := Int32.lt_iff_toInt_lt.mp h3.1
        have h6 := Int32.lt_iff_toInt_lt.mp hb.1
        exact Int32.lt_iff_toInt_lt.mpr (by omega)
    · exact ⟨q, hq, hC, by simpa using hbe, hb⟩
theorem beat_prog {C L : Nat → Bool} {ms : Nat → Nat → Int32} {fn : Nat → Int32} {t i : Nat} (hL : ∀ w, w < 5 → L w = if w < i then stepC ms fn t C w else C w) : beatB L ms fn t i = beatB C ms fn t i := by
  apply Bool.eq_iff_iff.mpr
  constructor
  · intro h
    obtain ⟨q, h1, h2, h3⟩ := beat_iff.mp h
    refine beat_iff.mpr ⟨q, h1, ?_, h3⟩
    rw [hL q h1] at h2
    split at h2
    · unfold stepC at h2; simp at h2; exact h2.1
    · exact h2
  · intro h
    obtain ⟨q, h1, h2, h3⟩ := beat_iff.mp h
    have hb : (ms t q).toInt + 2147483648 < ((ms t q).toInt + 2147483648).toNat + 1 := by omega
    obtain ⟨q', g1, g2, g3, g4⟩ := unbeaten (C := C) (w := i) (((ms t q).toInt + 2147483648).toNat + 1) q (by omega) h1 h2 h3
    refine beat_iff.mpr ⟨q', g1, ?_, g4⟩
    rw [hL q' g1]
    split
    · unfold stepC; simp [g2, g3]
    · exact g2
section CH
variable {σ : rs_Mem} {C : Nat → Bool} {ms : Nat → Nat → Int32} {fn : Nat → Int32}
theorem RC.fr {A : Nat → Prop} {τ : rs_Mem} (h : RC σ C ms fn) (f : Fr A σ τ) (hA : ∀ u, A u → ¬ FrC u) : RC τ C ms fn := fun w hw => by
  have h0 := h w hw
  have hn : ∀ u, FrC u → ¬ A u := fun u hu ha => hA u ha hu
  refine ⟨(f.I (hn _ (by unfold FrC; omega)) _).trans h0.1, fun hc => ⟨(f.I (hn _ (by unfold FrC; omega)) _).trans (h0.2 hc).1, fun t ht => (f.I (hn _ (by unfold FrC; omega)) _).trans ((h0.2 hc).2 t ht)⟩⟩
theorem P_Ch_clear {Q : rs_Mem → Prop} (hG : Gr σ) (kk : ∀ τ, RC τ (fun _ => false) ms fn → Fr FrC σ τ → Gr τ → Q τ) : F_Ch_clear NF 16 σ Q := by
  have e5 : (5 : Int32) = nI 5 := by decide
  have key : ∀ d i τ, i + d = 5 → (∀ w, w < i → rs_I τ 26 w = 0) → Fr FrC σ τ → Gr τ → L_Ch_clear_2 NF Q (d + 1) 16 (nI i) τ := by
    intro d
    induction d with
    | zero =>
      intro i τ hi g1 g2 g3
      have e : i = 5 := by omega
      subst e
      exact w_t (by decide) (kk τ (fun w hw => ⟨g1 w hw, fun z => by cases z⟩) g2 g3)
    | succ d ih =>
      intro i τ hi g1 g2 g3
      refine w_f (fun h => by rw [e5, nIle (by omega) (by omega)] at h; omega) ?_
      rw [gr_16_2 g3, nf_26, nIc (by omega)]
      refine ⟨vpn (by omega) (by omega), fun σ1 e1 z ez => ?_⟩
      subst ez
      rw [nI_1]
      refine ih (i + 1) σ1 (by omega) (fun w hw => ?_) (by rw [e1]; exact g2.sI (by unfold FrC; omega)) (e1 ▸ g3)
      rw [e1]
      by_cases e : w = i
      · subst e; exact I_same
      · rw [I_nk e]; exact g1 w (by omega)
  exact ⟨_, key 5 0 σ rfl (fun w hw => by omega) Fr.rf hG⟩
def cms (r : Rt) (pref : Int32) (int : Bool) (id : Int32) (t : Nat) : Int32 :=
  if t = 0 then -pref else if t = 1 then nI (rtA r).length else if t = 2 then rtO r else if t = 3 then (if rtM r = -1 then 0 else rtM r) else if t = 4 then b2i int else if t = 5 then rSrc r id else nI (rtC r).length
theorem P_Ch_offer {w v : Nat} {r : Rt} {pref id : Int32} {int : Bool} {Q : rs_Mem → Prop} (hG : Gr σ) (hw : w < 5) (h : RC σ C ms fn) (hS : RS σ v) (hr : RRt σ v r) (hv : v + 2 < 16 ∨ 26 < v) (hms : ∀ t, t < 7 → ms t w = cms r pref int id t) (hfn : fn w = rFst r)
    (kk : ∀ τ, RC τ (upO C w true) ms fn → Fr FrC σ τ → Gr τ → Q τ) : F_Ch_offer NF 16 (nI w) v pref (b2i int) id σ Q := by
  have nv : ¬ FrC v ∧ ¬ FrC (v + 1) ∧ ¬ FrC (v + 2) := by unfold FrC; omega
  have hr' : ∀ τ, Fr FrC σ τ → RRt τ v r := fun τ f => hr.fr f nv.1 nv.2.1 nv.2.2
  have hS' : ∀ τ, Fr FrC σ τ → RS τ v := fun τ f => hS.fr f nv.1
  have w5 : vp_in (nI w) 5 := vpn hw (by omega)
  have t0 : (0 : Int32).toNatClampNeg = 0 := by decide
  have t1 : (1 : Int32).toNatClampNeg = 1 := by decide
  have t2 : (2 : Int32).toNatClampNeg = 2 := by decide
  have t3 : (3 : Int32).toNatClampNeg = 3 := by decide
  have t4 : (4 : Int32).toNatClampNeg = 4 := by decide
  have t5 : (5 : Int32).toNatClampNeg = 5 := by decide
  have t6 : (6 : Int32).toNatClampNeg = 6 := by decide
  unfold F_Ch_offer
  rw [gr_16_2 hG, nf_26, nIc (by omega)]
  refine ⟨w5, fun σ1 e1 => ?_⟩
  have hG1 : Gr σ1 := e1 ▸ hG
  have f1 : Fr FrC σ σ1 := by rw [e1]; exact Fr.rf.sI (by unfold FrC; omega)
  refine P_Ro_firstNetwork (hS' σ1 f1) (hr' σ1 f1) ?_
  rw [gr_16_1 hG1, nf_25]
  refine ⟨w5, fun σ2 e2 => ?_⟩
  have hG2 : Gr σ2 := e2 ▸ hG1
  have f2 : Fr FrC σ σ2 := by rw [e2]; exact f1.sI (by unfold FrC; omega)
  rw [gr_16_0 hG2, nf_17, t0, gr_17 hG2 (by omega), nf_18 (by omega)]
  refine ⟨vpl rfl, w5, fun σ3 e3 => ?_⟩
  have hG3 : Gr σ3 := e3 ▸ hG2
  have f3 : Fr FrC σ σ3 := by rw [e3]; exact f2.sI (by unfold FrC; omega)
  rw [gr_16_0 hG3, nf_17, t1, gr_17 hG3 (by omega), nf_18 (by omega), (hr' σ3 f3).2.1]
  refine ⟨vpl rfl, w5, fun σ4 e4 => ?_⟩
  have hG4 : Gr σ4 := e4 ▸ hG3
  have f4 : Fr FrC σ σ4 := by rw [e4]; exact f3.sI (by unfold FrC; omega)
  rw [gr_16_0 hG4, nf_17, t2, gr_17 hG4 (by omega), nf_18 (by omega), (hr' σ4 f4).1]
  refine ⟨vpl rfl, w5, fun σ5 e5 => ?_⟩
  have hG5 : Gr σ5 := e5 ▸ hG4
  have f5 : Fr FrC σ σ5 := by rw [e5]; exact f4.sI (by unfold FrC; omega)
  rw [gr_16_0 hG5, nf_17, t3, gr_17 hG5 (by omega), (hr' σ5 f5).2.2.2.1]
  refine ⟨vpl rfl, ?_⟩
  have last : ∀ m3 : Int32, m3 = (if rtM r = -1 then 0 else rtM r) → B_Ch_offer_74 NF Q 16 (nI w) v (b2i int) id (18 + 3) (nI w) m3 σ5 := fun m3 hm3 => by
    unfold B_Ch_offer_74
    rw [nf_18 (by omega), nIc (by omega)]
    refine ⟨w5, fun σ6 e6 => ?_⟩
    have hG6 : Gr σ6 := e6 ▸ hG5
    have f6 : Fr FrC σ σ6 := by rw [e6]; exact f5.sI (by unfold FrC; omega)
    rw [gr_16_0 hG6, nf_17, t4, gr_17 hG6 (by omega)]
    refine ⟨vpl rfl, ?_⟩
    have last2 : B_Ch_offer_92 NF Q 16 (nI w) v id (18 + 4) (nI w) (b2i int) σ6 := by
      unfold B_Ch_offer_92
      rw [nf_18 (by omega), nIc (by omega)]
      refine ⟨w5, fun σ7 e7 => ?_⟩
      have hG7 : Gr σ7 := e7 ▸ hG6
      have f7 : Fr FrC σ σ7 := by rw [e7]; exact f6.sI (by unfold FrC; omega)
      rw [gr_16_0 hG7, nf_17, t5, gr_17 hG7 (by omega), nf_18 (by omega)]
      refine ⟨vpl rfl, P_Ro_sourceOr (hr' σ7 f7) ⟨w5, fun σ8 e8 => ?_⟩⟩
      have hG8 : Gr σ8 := e8 ▸ hG7
      have f8 : Fr FrC σ σ8 := by rw [e8]; exact f7.sI (by unfold FrC; omega)
      rw [gr_16_0 hG8, nf_17, t6, gr_17 hG8 (by omega), nf_18 (by omega), (hr' σ8 f8).2.2.2.2.2.2.1]
      refine ⟨vpl rfl, w5, fun σ9 e9 => ?_⟩
      have hG9 : Gr σ9 := e9 ▸ hG8
      have f9 : Fr FrC σ σ9 := by rw [e9]; exact f8.sI (by unfold FrC; omega)
      refine kk σ9 (fun x hx => ?_) f9 hG9
      by_cases hxw : x = w
      · subst hxw
        rw [upO_same]
        refine ⟨?_, fun _ => ⟨?_, fun t ht => ?_⟩⟩
        · rw [e9, e8, e7, e6, e5, e4, e3, e2, e1]
          simp [I_I, b2i]
        · rw [e9, e8, e7, e6, e5, e4, e3, e2, hfn]
          simp [I_I]
        · rw [hms t ht]
          rcases (by omega : t = 0 ∨ t = 1 ∨ t = 2 ∨ t = 3 ∨ t = 4 ∨ t = 5 ∨ t = 6) with rfl | rfl | rfl | rfl | rfl | rfl | rfl <;>
          · rw [e9, e8, e7, e6, e5, e4, e3]
            simp [I_I, cms, hm3]
      · rw [upO_ne hxw]
        have g : ∀ u, FrC u → rs_I σ9 u x = rs_I σ u x := fun u hu => by
          rw [e9, e8, e7, e6, e5, e4, e3, e2, e1, I_nk hxw, I_nk hxw, I_nk hxw, I_nk hxw, I_nk hxw, I_nk hxw, I_nk hxw, I_nk hxw, I_nk hxw]
        obtain ⟨h1, h2⟩ := h x hx
        exact ⟨(g 26 (by unfold FrC; omega)).trans h1, fun hc => ⟨(g 25 (by unfold FrC; omega)).trans (h2 hc).1, fun t ht => (g (18 + t) (by unfold FrC; omega)).trans ((h2 hc).2 t ht)⟩⟩
    cases int with
    | false => exact w_t rfl last2
    | true => exact w_f (by decide) last2
  exact ⟨fun hm => last _ (by rw [if_neg hm]), fun hm => last _ (by rw [if_pos hm])⟩
theorem P_Ch_isBeaten {w t : Nat} {Q : Int32 → rs_Mem → Prop} (hG : Gr σ) (hw : w < 5) (ht : t < 7) (h : RC σ C ms fn) (hC : C w = true) (h1 : beatB C ms fn t w = true → Q 1 σ) (h0 : beatB C ms fn t w = false → Q 0 σ) : F_Ch_isBeaten NF 16 (nI t) (nI w) σ Q := by
  have e5 : (5 : Int32) = nI 5 := by decide
  have e3 : (3 : Int32) = nI 3 := by decide
  obtain ⟨c1, c2⟩ := h w hw
  obtain ⟨c2, c3⟩ := c2 hC
  have key : ∀ d i, i + d = 5 → (∀ q, q < i → C q = true → ¬ bt ms fn t q w) → L_Ch_isBeaten_2 NF Q (d + 1) 16 (nI t) (nI w) (nI i) σ := by
    intro d
    induction d with
    | zero =>
      intro i hi g
      have e : i = 5 := by omega
      subst e
      refine w_t (by decide) (h0 ?_)
      cases hb : beatB C ms fn t w with
      | false => rfl
      | true =>
        obtain ⟨q, q1, q2, q3⟩ := beat_iff.mp hb
        exact absurd q3 (g q q1 q2)
    | succ d ih =>
      intro i hi g
      obtain ⟨d1, d2⟩ := h i (by omega)
      refine w_f (fun h => by rw [e5, nIle (by omega) (by omega)] at h; omega) ?_
      have step : (C i = true → ¬ bt ms fn t i w) → L_Ch_isBeaten_2 NF Q (d + 1) 16 (nI t) (nI w) (nI (i + 1)) σ := fun hn => ih (i + 1) (by omega) (fun q hq hc => by
        by_cases e : q = i
        · subst e; exact hn hc
        · exact g q (by omega) hc)
      have yes : C i = true → bt ms fn t i w → Q 1 σ := fun hc hb => h1 (beat_iff.mpr ⟨i, by omega, hc, hb⟩)
      rw [gr_16_2 hG, nf_26, nIc (by omega), d1, gr_16_0 hG, nf_17, nIc (by omega), gr_17 hG ht, nf_18 ht, nIc (by omega), gr_16_1 hG, nf_25]
      refine ⟨vpn (by omega) (by omega), fun hz x ex => ?_, fun hz => ?_⟩
      · subst ex
        rw [nI_1]
        exact step (fun hc => by rw [hc] at hz; exact absurd hz (by decide))
      · have hCi : C i = true := by
          cases hc : C i with
          | true => rfl
          | false => rw [hc] at hz; exact absurd rfl hz
        obtain ⟨d3, d4⟩ := d2 hCi
        rw [d4 t ht, c3 t ht, d3, c2]
        refine ⟨vpn (by omega) (by omega), vpn (by omega) (by omega), vpn (by omega) (by omega), vpn (by omega) (by omega), fun hle x ex => ?_, fun hle => ⟨fun h3 => yes hCi ⟨?_, fun e => absurd (by rw [e, e3]) h3⟩, fun h3 => ⟨vpn (by omega) (by omega), vpn (by omega) (by omega), fun hf x ex => ?_, fun hf => yes hCi ⟨?_, fun _ => hf⟩⟩⟩⟩
        · subst ex
          rw [nI_1]
          exact step (fun _ hb => by have := hb.1; grind)
        · grind
        · subst ex
          rw [nI_1]
          rw [e3, nIeq (by omega) (by omega)] at h3
          exact step (fun _ hb => hf (hb.2 h3))
        · grind
  exact ⟨_, key 5 0 rfl (fun q hq => by omega)⟩
theorem P_Ch_dropBeaten {t : Nat} {Q : rs_Mem → Prop} (hG : Gr σ) (ht : t < 7) (h : RC σ C ms fn) (kk : ∀ τ, RC τ (stepC ms fn t C) ms fn → Fr FrC σ τ → Gr τ → Q τ) : F_Ch_dropBeaten NF 16 (nI t) σ Q := by
  have e5 : (5 : Int32) = nI 5 := by decide
  have key : ∀ d i τ, i + d = 5 → RC τ (fun w => if w < i then stepC ms fn t C w else C w) ms fn → Fr FrC σ τ → Gr τ → L_Ch_dropBeaten_2 NF Q (d + 1) 16 (nI t) (nI i) τ := by
    intro d
    induction d with
    | zero =>
      intro i τ hi g1 g2 g3
      have e : i = 5 := by omega
      subst e
      refine w_t (by decide) (kk τ (fun w hw => ?_) g2 g3)
      have := g1 w hw
      simp only [if_pos hw] at this
      exact this
    | succ d ih =>
      intro i τ hi g1 g2 g3
      refine w_f (fun h => by rw [e5, nIle (by omega) (by omega)] at h; omega) ?_
      obtain ⟨d1, d2⟩ := g1 i (by omega)
      simp only [if_neg (Nat.lt_irrefl i)] at d1 d2
      have fin : ∀ b : Bool, b = stepC ms fn t C i → L_Ch_dropBeaten_2 NF Q (d + 1) 16 (nI t) (nI (i + 1)) (rs_sI τ 26 i (b2i b)) := fun b hb => by
        refine ih (i + 1) _ (by omega) (fun w hw => ?_) (g2.sI (by unfold FrC; omega)) (Gr_I g3)
        by_cases e : w = i
        · subst e
          simp only [if_pos (Nat.lt_succ_self w)]
          rw [← hb]
          refine ⟨I_same, fun hc => ?_⟩
          have hCw : C w = true := by rw [hb] at hc; unfold stepC at hc; simp at hc; exact hc.1
          obtain ⟨d3, d4⟩ := d2 hCw
          exact ⟨(I_ne (by omega)).trans d3, fun t' ht' => (I_ne (by omega)).trans (d4 t' ht')⟩
        · simp only [ite_lt e]
          obtain ⟨b1, b2⟩ := g1 w hw
          exact ⟨(I_nk e).trans b1, fun hc => ⟨(I_nk e).trans (b2 hc).1, fun t' ht' => (I_nk e).trans ((b2 hc).2 t' ht')⟩⟩
      have lo : stepC ms fn t C i = false → B_Ch_dropBeaten_34 NF (L_Ch_dropBeaten_2 NF Q (d + 1)) Q 16 (nI t) (nI i) 26 (nI i) τ := fun hf => by
        refine ⟨by rw [nf_26]; exact vpn (by omega) (by omega), fun σ2 e2 x ex => ?_⟩
        subst ex
        rw [nIc (by omega)] at e2
        rw [nI_1, e2]
        exact fin false hf.symm
      rw [gr_16_2 g3, nf_26, nIc (by omega), d1]
      refine ⟨vpn (by omega) (by omega), fun hz => lo ?_, fun hz => ?_⟩
      · unfold stepC; rw [b2i_ne.mp hz]; rfl
      · have hCi : C i = true := by
          cases hc : C i with
          | true => rfl
          | false => rw [hc] at hz; exact absurd rfl hz
        have hbp : beatB (fun w => if w < i then stepC ms fn t C w else C w) ms fn t i = beatB C ms fn t i := beat_prog (fun w _ => rfl)
        refine P_Ch_isBeaten g3 (by omega) ht g1 (by simp only [if_neg (Nat.lt_irrefl i)]; exact hCi) (fun hb => v_f (by decide) (lo ?_)) (fun hb => v_t rfl ⟨vpn (by omega) (by omega), fun σ2 e2 x ex => ?_⟩)
        · rw [hbp] at hb; unfold stepC; rw [hb]; simp
        · subst ex
          rw [nI_1, e2]
          refine fin true ?_
          rw [hbp] at hb
          unfold stepC; rw [hb, hCi]; rfl
  exact ⟨_, key 5 0 σ rfl (fun w hw => by simp only [if_neg (Nat.not_lt_zero w)]; exact h w hw) Fr.rf hG⟩
def runC (ms : Nat → Nat → Int32) (fn : Nat → Int32) : Nat → (Nat → Bool) → Nat → Bool
  | 0, C => C
  | t + 1, C => stepC ms fn t (runC ms fn t C)
def winC (C : Nat → Bool) : Int32 := if C 4 then 4 else if C 0 then 0 else if C 1 then 1 else if C 2 then 2 else if C 3 then 3 else -1
theorem P_Ch_winner {Q : Int32 → rs_Mem → Prop} (hG : Gr σ) (h : RC σ C ms fn) (kk : ∀ τ, Fr FrC σ τ → Gr τ → Q (winC (runC ms fn 7 C)) τ) : F_Ch_winner NF 16 σ Q := by
  have e7 : (7 : Int32) = nI 7 := by decide
  have t4 : (4 : Int32).toNatClampNeg = 4 := by decide
  have e4 : (4 : Int32) = nI 4 := by decide
  have key : ∀ d t τ, t + d = 7 → RC τ (runC ms fn t C) ms fn → Fr FrC σ τ → Gr τ → L_Ch_winner_2 NF Q (d + 1) 16 (nI t) τ := by
    intro d
    induction d with
    | zero =>
      intro t τ ht g1 g2 g3
      have e : t = 7 := by omega
      subst e
      refine w_t (by decide) ?_
      rw [gr_16_2 g3, nf_26, t4, (g1 4 (by omega)).1]
      refine ⟨vpl rfl, fun hz => ?_, fun hz => ?_⟩
      · have h4 : runC ms fn 7 C 4 = false := b2i_ne.mp hz
        have kk2 := kk τ g2 g3
        unfold winC at kk2
        rw [h4] at kk2
        simp only [Bool.false_eq_true, if_false] at kk2
        have key2 : ∀ d i, i + d = 4 → (∀ w, w < i → runC ms fn 7 C w = false) → L_Ch_winner_32 NF Q (d + 1) 16 (nI i) τ := by
          intro d
          induction d with
          | zero =>
            intro i hi g
            have e : i = 4 := by omega
            subst e
            refine w_t (by decide) ?_
            simp only [g 0 (by omega), g 1 (by omega), g 2 (by omega), g 3 (by omega), Bool.false_eq_true, if_false] at kk2
            exact kk2
          | succ d ih =>
            intro i hi g
            refine w_f (fun h => by rw [e4, nIle (by omega) (by omega)] at h; omega) ?_
            rw [gr_16_2 g3, nf_26, nIc (by omega), (g1 i (by omega)).1]
            refine ⟨vpn (by omega) (by omega), fun hz x ex => ?_, fun hz => ?_⟩
            · subst ex
              rw [nI_1]
              exact ih (i + 1) (by omega) (fun w hw => by
                by_cases e : w = i
                · subst e; exact b2i_ne.mp hz
                · exact g w (by omega))
            · have hi1 : runC ms fn 7 C i = true := by
                cases hc : runC ms fn 7 C i with
                | true => rfl
                | false => rw [hc] at hz; exact absurd rfl hz
              rcases (by omega : i = 0 ∨ i = 1 ∨ i = 2 ∨ i = 3) with rfl | rfl | rfl | rfl
              · simp only [hi1, if_true] at kk2; exact kk2
              · simp only [g 0 (by omega), hi1, Bool.false_eq_true, if_false, if_true] at kk2; exact kk2
              · simp only [g 0 (by omega), g 1 (by omega), hi1, Bool.false_eq_true, if_false, if_true] at kk2; exact kk2
              · simp only [g 0 (by omega), g 1 (by omega), g 2 (by omega), hi1, Bool.false_eq_true, if_false, if_true] at kk2; exact kk2
        exact ⟨_, key2 4 0 rfl (fun w hw => by omega)⟩
      · have h4 : runC ms fn 7 C 4 = true := by
          cases hc : runC ms fn 7 C 4 with
          | true => rfl
          | false => rw [hc] at hz; exact absurd rfl hz
        have kk2 := kk τ g2 g3
        unfold winC at kk2
        rw [h4] at kk2
        exact kk2
    | succ d ih =>
      intro t τ ht g1 g2 g3
      refine w_f (fun h => by rw [e7, nIle (by omega) (by omega)] at h; omega) ?_
      refine P_Ch_dropBeaten g3 (by omega) g1 (fun ρ r1 r2 r3 x ex => ?_)
      subst ex
      rw [nI_1]
      exact ih (t + 1) ρ (by omega) r1 (g2.tr r2) r3
  exact ⟨_, key 7 0 σ rfl h Fr.rf hG⟩
end CH
