/-! the whole in the abstract, and in the class's cells -/
abbrev Ab : Type := (Nat → Ps) × List (Int32 × Int32) × (Nat → Bool)
def aPe (a : Ab) : Nat → Ps := a.1
def aPre (a : Ab) : List (Int32 × Int32) := a.2.1
def aOrg (a : Ab) : Nat → Bool := a.2.2
def stPe (a : Ab) (p : Nat) (s : Ps) : Ab := (upO a.1 p s, a.2)
def stPre (a : Ab) (l : List (Int32 × Int32)) : Ab := (a.1, l, a.2.2)
def stOrg (a : Ab) (f : Nat → Bool) : Ab := (a.1, a.2.1, f)
def ownR : Rt := (0, 7, -1, 100, 0, [], [])
def prx (a : Ab) (k : Nat) : Int32 × Int32 := (aPre a).getD k (0, 0)
/-- the class's cells hold a -/
def Hi (μ σ : rs_Mem) : Prop := Fr (fun u => u < 281 ∨ 320 ≤ u) μ σ
def CR (μ σ : rs_Mem) (a : Ab) : Prop := Gr σ ∧ RPx σ (aPre a) (aOrg a) ∧ (RRt σ 7 ownR ∧ Hi μ σ) ∧ ∀ p, p < 4 → RPe σ (pb p) (aPre a) (aPe a p)
theorem CR.fr {A : Nat → Prop} {μ σ τ : rs_Mem} {a : Ab} (h : CR μ σ a) (f : Fr A σ τ) (hG : Gr τ) (hA : ∀ u, A u → 10 ≤ u ∧ u < 29) : CR μ τ a :=
  ⟨hG, h.2.1.fr f (fun q => by have := hA _ q; omega) (fun q => by have := hA _ q; omega) (fun q => by have := hA _ q; omega) (fun q => by have := hA _ q; omega), ⟨h.2.2.1.1.fr f (fun q => by have := hA _ q; omega) (fun q => by have := hA _ q; omega) (fun q => by have := hA _ q; omega), h.2.2.1.2.tr (f.mono fun u q => Or.inl (by have := hA _ q; omega))⟩, fun p hp => (h.2.2.2 p hp).fp f.fp (fun u j z1 z2 => Or.inr fun q => by have := hA _ q; unfold pb at *; omega)⟩
/-- one peer's cells were written -/
theorem CR.pe {μ σ τ : rs_Mem} {a : Ab} {p : Nat} {s : Ps} (h : CR μ σ a) (f : Fr (fun u => FPp p u ∨ FrL u) σ τ) (hG : Gr τ) (g : RPe τ (pb p) (aPre a) s) (hp : p < 4 := by assumption) : CR μ τ (stPe a p s) := by
  refine ⟨hG, h.2.1.fr f (by unfold FPp FrL pb; omega) (by unfold FPp FrL pb; omega) (by unfold FPp FrL pb; omega) (by unfold FPp FrL pb; omega), ⟨h.2.2.1.1.fr f (by unfold FPp FrL pb; omega) (by unfold FPp FrL pb; omega) (by unfold FPp FrL pb; omega), h.2.2.1.2.tr (f.mono fun u z => Or.inl (by unfold FPp FrL pb at z; omega))⟩, fun q hq => ?_⟩
  show RPe τ (pb q) (aPre a) (upO (aPe a) p s q)
  by_cases e : q = p
  · subst e; rw [upO_same]; exact g
  · rw [upO_ne e]
    exact (h.2.2.2 q hq).fp f.fp (fun u j z1 z2 => Or.inr (by unfold FPp FrL; unfold pb at *; omega))
def prf (s : Ps) (r : Rt) (q : Int32 × Int32) : Int32 := if act (pRul s) q.1 q.2 = -1 then rtP r else act (pRul s) q.1 q.2
abbrev Cd : Type := Rt × Int32 × Bool × Int32
abbrev bad (s : Ps) (k : Nat) (r : Rt) (q : Int32 × Int32) : Prop := rBar r ∨ pDmp s k = true ∨ act (pRul s) q.1 q.2 = 0
def cnd (a : Ab) (k w : Nat) : Option Cd :=
  if w = 4 then (if aOrg a k = true then some (ownR, 100, false, 7) else none)
  else match pInc (aPe a w) k with
    | none => none
    | some r => if bad (aPe a w) k r (prx a k) then none else some (r, prf (aPe a w) r (prx a k), decide (pRole (aPe a w) ≠ 0), pId (aPe a w))
def C0 (a : Ab) (k w : Nat) : Bool := (cnd a k w).isSome
def msA (a : Ab) (k t w : Nat) : Int32 := match cnd a k w with
  | none => 0
  | some c => cms c.1 c.2.1 c.2.2.1 c.2.2.2 t
def fnA (a : Ab) (k w : Nat) : Int32 := match cnd a k w with
  | none => 0
  | some c => rFst c.1
def winO (C : Nat → Bool) : Option Nat := if C 4 then some 4 else if C 0 then some 0 else if C 1 then some 1 else if C 2 then some 2 else if C 3 then some 3 else none
def oI (o : Option Nat) : Int32 := match o with
  | none => -1
  | some w => nI w
theorem winC_eq {C : Nat → Bool} : winC C = oI (winO C) := by
  unfold winC winO
  split
  · decide
  · split
    · decide
    · split
      · decide
      · split
        · decide
        · split <;> decide
def bestO (a : Ab) (k : Nat) : Option Nat := winO (runC (msA a k) (fnA a k) 7 (C0 a k))
theorem winO_some {C : Nat → Bool} {w : Nat} (h : winO C = some w) : w < 5 ∧ C w = true := by
  unfold winO at h
  split at h
  · rename_i e; cases h; exact ⟨by omega, e⟩
  · split at h
    · rename_i e; cases h; exact ⟨by omega, e⟩
    · split at h
      · rename_i e; cases h; exact ⟨by omega, e⟩
      · split at h
        · rename_i e; cases h; exact ⟨by omega, e⟩
        · split at h
          · rename_i e; cases h; exact ⟨by omega, e⟩
          · cases h
theorem runC_sub {ms : Nat → Nat → Int32} {fn : Nat → Int32} {C : Nat → Bool} {w : Nat} : ∀ t, runC ms fn t C w = true → C w = true
  | 0, h => h
  | t + 1, h => runC_sub t (by
      have h2 : stepC ms fn t (runC ms fn t C) w = true := h
      unfold stepC at h2
      simp at h2
      exact h2.1)
theorem bestO_some {a : Ab} {k w : Nat} (h : bestO a k = some w) : w < 5 ∧ C0 a k w = true := ⟨(winO_some h).1, runC_sub 7 (winO_some h).2⟩
section AB
variable {μ σ : rs_Mem} {a : Ab} {w k : Nat} {Q : Int32 → rs_Mem → Prop}
theorem CR.prx_at (h : CR μ σ a) (hk : k < (aPre a).length) : rs_I σ 3 k = (prx a k).1 ∧ rs_I σ 4 k = (prx a k).2 := by
  have e : prx a k = (aPre a)[k] := by unfold prx; rw [List.getD_eq_getElem?_getD, List.getElem?_eq_getElem hk]; rfl
  rw [e]
  exact h.2.1.2.2.1 k hk
theorem CR.kl (h : CR μ σ a) (hk : k < (aPre a).length) : k < 12 := by have := h.2.1.2.1; omega
theorem P_Sp_isInternal (h : CR μ σ a) (hw : w < 4) (kk : Q (b2i (decide (pRole (aPe a w) ≠ 0))) σ) : F_Sp_isInternal NF 1 (nI w) σ Q := by
  have e4 : (4 : Int32) = nI 4 := by decide
  unfold F_Sp_isInternal
  rw [gr_1_1 h.1, nf_6, nIc (by omega), gr_6 h.1 hw, (h.2.2.2 w hw).1.1]
  refine w_f (fun z => by rw [e4, nIeq (by omega) (by omega)] at z; omega) ⟨vpn hw (by omega), fun z => ?_, fun z => ?_⟩
  · rw [z] at kk; exact kk
  · have e : decide (pRole (aPe a w) ≠ 0) = true := decide_eq_true z
    rw [e] at kk; exact kk
theorem P_Sp_isInternal4 (kk : Q 0 σ) : F_Sp_isInternal NF 1 4 σ Q := w_t rfl kk
theorem P_Sp_routeOf {Q : Nat → rs_Mem → Prop} (h : CR μ σ a) (hw : w < 4) (hk : k < 12) (kk : Q (pb w + 14 + 3 * k) σ) : F_Sp_routeOf NF 1 (nI w) (nI k) σ Q := by
  have e4 : (4 : Int32) = nI 4 := by decide
  unfold F_Sp_routeOf
  rw [gr_1_1 h.1, nf_6, nIc (by omega), gr_6 h.1 hw, gp_0_15 h.1 hw, gp_9_0 h.1 hw, np_10 hw, nIc (by omega), gp_10 h.1 hw hk]
  exact v_f (fun z => by rw [e4, nIeq (by omega) (by omega)] at z; omega) ⟨vpn hw (by omega), vpn hk (by omega), kk⟩
theorem P_Sp_routeOf4 {x : Int32} {Q : Nat → rs_Mem → Prop} (h : Gr σ) (kk : Q 7 σ) : F_Sp_routeOf NF 1 4 x σ Q := by
  unfold F_Sp_routeOf
  rw [gr_1_2 h]
  exact v_t rfl kk
theorem P_Sp_preferenceOf {r : Rt} (h : CR μ σ a) (hw : w < 4) (hk : k < (aPre a).length) (hr : pInc (aPe a w) k = some r) (kk : Q (prf (aPe a w) r (prx a k)) σ) : F_Sp_preferenceOf NF 1 (nI w) (nI k) σ Q := by
  have e4 : (4 : Int32) = nI 4 := by decide
  have hk12 := h.kl hk
  have hp := h.2.2.2 w hw
  unfold F_Sp_preferenceOf
  rw [gr_1_1 h.1, nf_6, nIc (by omega), gr_6 h.1 hw, gr_1_0 h.1, gr_2_0 h.1, gr_2_1 h.1, nf_3, nf_4, gp_0_5 h.1 hw, nIc (by omega), (h.prx_at hk).1, (h.prx_at hk).2]
  refine v_f (fun z => by rw [e4, nIeq (by omega) (by omega)] at z; omega) ⟨vpn hw (by omega), vpn hk12 (by omega), vpn hk12 (by omega), P_Ru_actionFor (RuS_pe h.1 hw) hp.2.2.2.1 ?_⟩
  unfold prf at kk
  refine ⟨fun z => by rw [if_neg z] at kk; exact kk, fun z => P_Sp_routeOf h hw hk12 ?_⟩
  rw [if_pos z] at kk
  rw [((hp.2.2.2.2.1 k hk12).2.1 r hr).2.2.2.2.1]
  exact kk
theorem P_Sp_preferenceOf4 {x : Int32} (h : CR μ σ a) (kk : Q 100 σ) : F_Sp_preferenceOf NF 1 4 x σ Q := by
  refine v_t rfl (v_t rfl (P_Sp_routeOf4 h.1 ?_))
  rw [h.2.2.1.1.2.2.2.2.1]
  exact kk
def flw (s : Ps) (k : Nat) (r : Rt) (q : Int32 × Int32) : Int32 := (if rBar r then 1 else 0) + (if pDmp s k = true then 2 else 0) + (if act (pRul s) q.1 q.2 = 0 then 4 else 0)
theorem flw_0 {s : Ps} {r : Rt} {q : Int32 × Int32} : flw s k r q = 0 ↔ ¬ bad s k r q := by
  unfold flw bad
  by_cases h1 : rBar r <;> by_cases h2 : pDmp s k = true <;> by_cases h3 : act (pRul s) q.1 q.2 = 0 <;> simp [h1, h2, h3]
theorem P_Sp_flawsOf {r : Rt} (h : CR μ σ a) (hw : w < 4) (hk : k < (aPre a).length) (hr : pInc (aPe a w) k = some r) (kk : Q (flw (aPe a w) k r (prx a k)) σ) : F_Sp_flawsOf NF 1 (nI w) (nI k) σ Q := by
  have hk12 := h.kl hk
  have hp := h.2.2.2 w hw
  obtain ⟨i1, i2, i3, i4⟩ := hp.2.2.2.2.1 k hk12
  unfold F_Sp_flawsOf
  rw [gr_1_1 h.1, nf_6, nIc (by omega), gr_6 h.1 hw, gp_0_15 h.1 hw]
  refine ⟨vpn hw (by omega), fun v ev => ?_⟩
  subst ev
  rw [gp_9_0 h.1 hw, np_10 hw, nIc (by omega), gp_10 h.1 hw hk12]
  have last : ∀ x y : Int32, (x + y + (if act (pRul (aPe a w)) (prx a k).1 (prx a k).2 = 0 then 4 else 0)) = flw (aPe a w) k r (prx a k) → B_Sp_flawsOf_41 NF Q 1 (nI w) (nI k) x y σ := fun x y e => by
    unfold B_Sp_flawsOf_41
    rw [gr_1_1 h.1, nf_6, nIc (by omega), gr_6 h.1 hw, gr_1_0 h.1, gr_2_0 h.1, gr_2_1 h.1, nf_3, nf_4, gp_0_5 h.1 hw, nIc (by omega), (h.prx_at hk).1, (h.prx_at hk).2]
    refine ⟨vpn hw (by omega), vpn hk12 (by omega), vpn hk12 (by omega), P_Ru_actionFor (RuS_pe h.1 hw) hp.2.2.2.1 ⟨fun z => ?_, fun z => ?_⟩⟩
    · rw [if_neg z] at e; rw [e]; exact kk
    · rw [if_pos z] at e; rw [e]; exact kk
  have mid : ∀ x : Int32, x = (if rBar r then 1 else 0) → B_Sp_flawsOf_27 NF Q 1 (nI w) (nI k) (pb w + 9) x σ := fun x e => by
    unfold B_Sp_flawsOf_27
    rw [gp_9_1 h.1 hw, np_11 hw, nIc (by omega), i4]
    refine ⟨vpn hk12 (by omega), fun z => last x 0 ?_, fun z => last x 2 ?_⟩
    · have z := b2i_ne.mp z
      unfold flw; rw [e, if_neg (c := pDmp (aPe a w) k = true) (by rw [z]; decide)]
    · have z : pDmp (aPe a w) k = true := by
        cases hd : pDmp (aPe a w) k with
        | true => rfl
        | false => rw [hd] at z; exact absurd rfl z
      unfold flw; rw [e, if_pos z]
  exact ⟨vpn hk12 (by omega), P_Ro_isBarred (RS_in h.1 hw hk12) (i2 r hr) (fun q => w_f (by decide) (mid 1 (by rw [if_pos q]))) (fun q => w_t rfl (mid 0 (by rw [if_neg q])))⟩
theorem runC_congr {ms ms' : Nat → Nat → Int32} {fn fn' : Nat → Int32} {C C' : Nat → Bool} (h1 : ∀ t w, w < 5 → ms t w = ms' t w) (h2 : ∀ w, w < 5 → fn w = fn' w) (h3 : ∀ w, w < 5 → C w = C' w) : ∀ t w, w < 5 → runC ms fn t C w = runC ms' fn' t C' w
  | 0, w, hw => h3 w hw
  | t + 1, w, hw => by
    have ih := runC_congr h1 h2 h3 t
    show stepC ms fn t (runC ms fn t C) w = stepC ms' fn' t (runC ms' fn' t C') w
    unfold stepC
    rw [ih w hw]
    have : beatB (runC ms fn t C) ms fn t w = beatB (runC ms' fn' t C') ms' fn' t w := by
      apply Bool.eq_iff_iff.mpr
      rw [beat_iff, beat_iff]
      unfold bt
      constructor
      · rintro ⟨q, q1, q2, q3, q4⟩
        exact ⟨q, q1, by rw [← ih q q1]; exact q2, by rw [← h1 t q q1, ← h1 t w hw]; exact q3, fun e => by rw [← h2 q q1, ← h2 w hw]; exact q4 e⟩
      · rintro ⟨q, q1, q2, q3, q4⟩
        exact ⟨q, q1, by rw [ih q q1]; exact q2, by rw [h1 t q q1, h1 t w hw]; exact q3, fun e => by rw [h2 q q1, h2 w hw]; exact q4 e⟩
    rw [this]
theorem winO_congr {C C' : Nat → Bool} (h : ∀ w, w < 5 → C w = C' w) : winO C = winO C' := by
  unfold winO
  rw [h 0 (by omega), h 1 (by omega), h 2 (by omega), h 3 (by omega), h 4 (by omega)]
theorem CR.fc {τ : rs_Mem} (h : CR μ σ a) (f : Fr FrC σ τ) (hG : Gr τ) : CR μ τ a := h.fr f hG (fun u q => by unfold FrC at q; omega)
theorem P_Sp_chooseFor (h : CR μ σ a) (hk : k < (aPre a).length) (kk : ∀ τ, CR μ τ a → Fr FrC σ τ → Q (oI (bestO a k)) τ) : F_Sp_chooseFor NF 1 (nI k) σ Q := by
  have hk12 := h.kl hk
  have e4 : (4 : Int32) = nI 4 := by decide
  unfold F_Sp_chooseFor
  rw [gr_1_4 h.1]
  refine v_f (nIm1 (by omega)) (P_Ch_clear (ms := msA a k) (fn := fnA a k) h.1 (fun τ0 c1 c2 c3 => ?_))
  have key : ∀ d w τ, w + d = 4 → RC τ (fun x => decide (x < w) && C0 a k x) (msA a k) (fnA a k) → Fr FrC σ τ → CR μ τ a → L_Sp_chooseFor_16 NF Q (d + 1) 1 (nI k) (nI w) τ := by
    intro d
    induction d with
    | zero =>
      intro w τ hw g1 g2 g3
      have e : w = 4 := by omega
      subst e
      refine w_t (by decide) ?_
      have o5 := g3.2.1.2.2.2 k hk12
      rw [gr_1_0 g3.1, gr_2_2 g3.1, nf_5, nIc (by omega), o5]
      have fin : ∀ ρ C, RC ρ C (msA a k) (fnA a k) → (∀ x, x < 5 → C x = C0 a k x) → Fr FrC σ ρ → CR μ ρ a → B_Sp_chooseFor_128 NF Q 1 ρ := fun ρ C r1 r2 r3 r4 => by
        unfold B_Sp_chooseFor_128
        rw [gr_1_4 r4.1]
        refine P_Ch_winner r4.1 r1 (fun π p1 p2 => ?_)
        have e : winC (runC (msA a k) (fnA a k) 7 C) = oI (bestO a k) := by
          rw [winC_eq]
          unfold bestO
          rw [winO_congr (runC_congr (fun _ _ _ => rfl) (fun _ _ => rfl) r2 7)]
        rw [e]
        exact kk π (r4.fc p1 p2) (r3.tr p1)
      refine ⟨vpn hk12 (by omega), fun hz => fin τ _ g1 (fun x hx => ?_) g2 g3, fun hz => ?_⟩
      · by_cases e : x = 4
        · subst e
          have : C0 a k 4 = false := by unfold C0 cnd; rw [if_pos rfl, if_neg (by rw [b2i_ne.mp hz]; decide)]; rfl
          rw [this]; rfl
        · have : decide (x < 4) = true := decide_eq_true (by omega)
          rw [this]; rfl
      · have ho : aOrg a k = true := by
          cases hc : aOrg a k with
          | true => rfl
          | false => rw [hc] at hz; exact absurd rfl hz
        have hc4 : cnd a k 4 = some (ownR, 100, false, 7) := by unfold cnd; rw [if_pos rfl, if_pos ho]
        rw [gr_1_4 g3.1, gr_1_2 g3.1, g3.2.2.1.1.2.2.2.2.1, e4]
        refine P_Ch_offer (int := false) g3.1 (by omega) g1 (RS_own g3.1) g3.2.2.1.1 (by omega) (fun t ht => by unfold msA; rw [hc4]; rfl) (by unfold fnA; rw [hc4]) (fun ρ r1 r2 r3 => fin ρ _ r1 (fun x hx => ?_) (g2.tr r2) (g3.fc r2 r3))
        by_cases e : x = 4
        · subst e
          rw [upO_same]; unfold C0; rw [hc4]; rfl
        · rw [upO_ne e]
          have : decide (x < 4) = true := decide_eq_true (by omega)
          rw [this]; rfl
    | succ d ih =>
      intro w τ hw g1 g2 g3
      have hw4 : w < 4 := by omega
      refine w_f (fun h => by rw [e4, nIle (by omega) (by omega)] at h; omega) ?_
      rw [gr_1_1 g3.1, nf_6, nIc (by omega), gr_6 g3.1 hw4, gp_0_15 g3.1 hw4]
      have hp := g3.2.2.2 w hw4
      obtain ⟨i1, i2, i3, i4⟩ := hp.2.2.2.2.1 k hk12
      have skip : cnd a k w = none → L_Sp_chooseFor_16 NF Q (d + 1) 1 (nI k) (nI (w + 1)) τ := fun hn => by
        refine ih (w + 1) τ (by omega) (fun x hx => ?_) g2 g3
        have e : (decide (x < w + 1) && C0 a k x) = (decide (x < w) && C0 a k x) := by
          by_cases ex : x = w
          · subst ex; unfold C0; rw [hn]; simp
          · by_cases e2 : x < w
            · rw [decide_eq_true e2, decide_eq_true (by omega : x < w + 1)]
            · rw [decide_eq_false e2, decide_eq_false (by omega : ¬ x < w + 1)]
        simp only [e]
        exact g1 x hx
      refine ⟨vpn hw4 (by omega), P_In_has g3.1 hw4 hk12 (hp.2.2.2.2.1 k hk12) ⟨fun hz x ex => ?_, fun hz => ?_⟩⟩
      · subst ex
        rw [nI_1]
        refine skip ?_
        have hz := b2i_ne.mp hz
        unfold cnd
        rw [if_neg (by omega)]
        cases hi : pInc (aPe a w) k with
        | none => rfl
        | some r => rw [hi] at hz; cases hz
      · cases hi : pInc (aPe a w) k with
        | none => rw [hi] at hz; exact absurd rfl hz
        | some r =>
          refine P_Sp_flawsOf g3 hw4 hk hi ⟨fun hf x ex => ?_, fun hf => ?_⟩
          · subst ex
            rw [nI_1]
            refine skip ?_
            have hb : bad (aPe a w) k r (prx a k) := Classical.not_not.mp fun n => hf (flw_0.mpr n)
            unfold cnd
            rw [if_neg (by omega), hi]
            exact if_pos hb
          · have hb := flw_0.mp hf
            have hc : cnd a k w = some (r, prf (aPe a w) r (prx a k), decide (pRole (aPe a w) ≠ 0), pId (aPe a w)) := by
              unfold cnd
              rw [if_neg (by omega), hi]
              exact if_neg hb
            rw [gr_1_1 g3.1, nf_6, nIc (by omega), gr_6 g3.1 hw4, gp_0_15 g3.1 hw4, gp_9_0 g3.1 hw4, np_10 hw4, gr_1_4 g3.1, gp_10 g3.1 hw4 hk12]
            refine ⟨vpn hw4 (by omega), vpn hk12 (by omega), P_Sp_preferenceOf g3 hw4 hk hi (P_Sp_isInternal g3 hw4 ?_)⟩
            rw [gr_1_1 g3.1, nf_6, gr_6 g3.1 hw4, hp.1.2.2.2.2.2.2.2.2.2]
            refine ⟨vpn hw4 (by omega), P_Ch_offer g3.1 (by omega) g1 (RS_in g3.1 hw4 hk12) (i2 r hi) (by unfold pb; omega) (fun t ht => by unfold msA; rw [hc]) (by unfold fnA; rw [hc]) (fun ρ r1 r2 r3 x ex => ?_)⟩
            subst ex
            rw [nI_1]
            refine ih (w + 1) ρ (by omega) (fun x hx => ?_) (g2.tr r2) (g3.fc r2 r3)
            have e : (decide (x < w + 1) && C0 a k x) = upO (fun x => decide (x < w) && C0 a k x) w true x := by
              by_cases ex : x = w
              · subst ex; rw [upO_same]; unfold C0; rw [hc]; simp
              · rw [upO_ne ex]
                by_cases e2 : x < w
                · rw [decide_eq_true e2, decide_eq_true (by omega : x < w + 1)]
                · rw [decide_eq_false e2, decide_eq_false (by omega : ¬ x < w + 1)]
            simp only [e]
            exact r1 x hx
  exact ⟨_, key 4 0 τ0 rfl (fun x hx => by
    have : decide (x < 0) = false := decide_eq_false (by omega)
    simp only [this]
    exact c1 x hx) c2 (h.fc c2 c3)⟩
end AB
