/-! telling -/
abbrev mute (a : Ab) (p k : Nat) : Prop := pMl (aPe a p) ≠ -1 ∧ isWi (prx a k).1 (prx a k).2 (pMl (aPe a p)) (pMa (aPe a p))
abbrev meant (a : Ab) (p k w : Nat) : Prop := w ≠ p ∧ ¬ (w ≠ 4 ∧ pRole (aPe a w) = 2 ∧ pRole (aPe a p) = 2) ∧ ¬ mute a p k
def rtW (a : Ab) (w k : Nat) : Rt := if w = 4 then ownR else (pInc (aPe a w) k).getD ownR
def prW (a : Ab) (w k : Nat) : Int32 := if w = 4 then 100 else prf (aPe a w) (rtW a w k) (prx a k)
def idW (a : Ab) (w : Nat) : Int32 := if w = 4 then -1 else if pRole (aPe a w) = 0 then -1 else pId (aPe a w)
def dueW (a : Ab) (p k w : Nat) : Option (List Int32) :=
  if meant a p k w then
    (if pRole (aPe a p) = 0 then (if (rtA (rtW a w k)).length + (1 + (pPad (aPe a p)).toNatClampNeg) ≤ 8 then some (attO (rtW a w k) (pPad (aPe a p)).toNatClampNeg) else none)
     else (if idW a w = -1 ∨ (rtC (rtW a w k)).length + 1 ≤ 6 then some (attI (rtW a w k) (prW a w k) (idW a w)) else none))
  else none
def dueA (a : Ab) (p k : Nat) : Option (List Int32) := match bestO a k with
  | none => none
  | some w => dueW a p k w
def msgT (q : Int32 × Int32) (d : Option (List Int32)) : List Int32 := match d with
  | none => msgW q
  | some t => msgA t q
def tell1 (a : Ab) (p k : Nat) : Ab × Bool :=
  if pTol (aPe a p) k = dueA a p k then (a, true)
  else (stPe a p (sendS (sTol (aPe a p) (upO (pTol (aPe a p)) k (dueA a p k))) (msgT (prx a k) (dueA a p k))), decide (fitS (aPe a p) (msgT (prx a k) (dueA a p k))))
def okPad (a : Ab) : Prop := ∀ p, p < 4 → ∃ n, n ≤ 3 ∧ pPad (aPe a p) = nI n
section TL
variable {μ σ : rs_Mem} {a : Ab} {p k : Nat} {Q : Int32 → rs_Mem → Prop}
theorem P_Pe_isMuteFor (h : CR μ σ a) (hp : p < 4) (k1 : mute a p k → Q 1 σ) (k0 : ¬ mute a p k → Q 0 σ) : F_Pe_isMuteFor NF (pb p) (prx a k).1 (prx a k).2 σ Q := by
  obtain ⟨a0, a1, a2, a3, a4, -⟩ := (h.2.2.2 p hp).1
  unfold F_Pe_isMuteFor
  rw [a3, a4]
  refine ⟨fun z => k0 (fun y => y.1 z), fun z => P_Sp_isWithin (fun y => w_f (by decide) (k1 ⟨z, y⟩)) (fun y => w_t rfl (k0 (fun x => y x.2)))⟩
theorem P_Sp_isMeantFor {w : Nat} (h : CR μ σ a) (hp : p < 4) (hk : k < (aPre a).length) (hw : w < 5) (k1 : meant a p k w → Q 1 σ) (k0 : ¬ meant a p k w → Q 0 σ) : F_Sp_isMeantFor NF 1 (nI p) (nI k) (nI w) σ Q := by
  have hk12 := h.kl hk
  have e4 : (4 : Int32) = nI 4 := by decide
  have tail : (w ≠ p ∧ ¬ (w ≠ 4 ∧ pRole (aPe a w) = 2 ∧ pRole (aPe a p) = 2)) → B_Sp_isMeantFor_45 NF Q 1 (nI p) (nI k) σ := fun hc => by
    unfold B_Sp_isMeantFor_45
    rw [gr_1_1 h.1, nf_6, nIc (by omega), gr_6 h.1 hp, gr_1_0 h.1, gr_2_0 h.1, gr_2_1 h.1, nf_3, nf_4, nIc (by omega), (h.prx_at hk).1, (h.prx_at hk).2]
    exact ⟨vpn hp (by omega), vpn hk12 (by omega), vpn hk12 (by omega), P_Pe_isMuteFor h hp (fun z => v_f (by decide) (k0 (fun y => y.2.2 z))) (fun z => v_t rfl (k1 ⟨hc.1, hc.2, z⟩))⟩
  unfold F_Sp_isMeantFor
  refine w_f (nIm1 (by omega)) ⟨fun hne => ⟨fun h4 => tail ⟨fun e => hne (by rw [e]), fun z => z.1 ?_⟩, fun h4 => ?_⟩, fun he => k0 (fun y => y.1 ?_)⟩
  · rw [e4, nIeq (by omega) (by omega)] at h4; exact h4
  · have hw4 : w < 4 := by
      have : w ≠ 4 := fun e => h4 (by rw [e, e4])
      omega
    rw [gr_1_1 h.1, nf_6, nIc (by omega), gr_6 h.1 hw4, (h.2.2.2 w hw4).1.1]
    refine ⟨vpn hw4 (by omega), fun hr => tail ⟨fun e => hne (by rw [e]), fun z => hr z.2.1⟩, fun hr => ?_⟩
    rw [nIc (by omega), gr_6 h.1 hp, (h.2.2.2 p hp).1.1]
    exact ⟨vpn hp (by omega), fun hr2 => tail ⟨fun e => hne (by rw [e]), fun z => hr2 z.2.2⟩, fun hr2 => k0 (fun y => y.2.1 ⟨by omega, hr, hr2⟩)⟩
  · rw [nIeq (by omega) (by omega)] at he; exact he
theorem rtW_ok {w : Nat} (h : CR μ σ a) (hk : k < (aPre a).length) (hb : C0 a k w = true) (hw : w < 5) : w = 4 ∨ (w < 4 ∧ pInc (aPe a w) k = some (rtW a w k)) := by
  by_cases e : w = 4
  · exact Or.inl e
  · refine Or.inr ⟨by omega, ?_⟩
    unfold C0 cnd at hb
    rw [if_neg e] at hb
    unfold rtW
    rw [if_neg e]
    cases hi : pInc (aPe a w) k with
    | none => rw [hi] at hb; cases hb
    | some r => rfl
theorem attI_len {r : Rt} {x y : Int32} (h1 : (rtA r).length ≤ 8) (h2 : y = -1 ∨ (rtC r).length + 1 ≤ 6) : (attI r x y).length ≤ 33 := by
  have hm : (if rtM r = -1 then ([] : List Int32) else [4, 1, rtM r]).length ≤ 3 := by split <;> simp
  have hc : (if y = -1 then ([] : List Int32) else [9, 1, rSrc r y, 10, nI (1 + (rtC r).length), 7] ++ rtC r).length ≤ 11 := by
    split
    · simp
    · rename_i e
      have := h2.resolve_left e
      simp; omega
  unfold attI
  simp only [List.length_cons, List.length_append, List.length_nil]
  omega
theorem attO_len {r : Rt} {n : Nat} (h : (rtA r).length + (1 + n) ≤ 8) : (attO r n).length ≤ 33 := by
  unfold attO
  simp only [List.length_cons, List.length_append, List.length_nil, List.length_replicate]
  omega
theorem CR.lq {τ : rs_Mem} {q : Int32 × Int32} {A : Nat → Prop} (h : LQ σ q) (f : Fr A σ τ) (hA : ¬ A 27) : LQ τ q := ⟨(f.I hA _).trans h.1, (f.I hA _).trans h.2⟩
theorem prx_some (hk : k < (aPre a).length) : (aPre a)[k]? = some (prx a k) := by
  unfold prx
  rw [List.getD_eq_getElem?_getD, List.getElem?_eq_getElem hk]
  rfl
theorem P_tell_w (h : CR μ σ a) (hL : LQ σ (prx a k)) (hp : p < 4) (hk : k < (aPre a).length) (hd : dueA a p k = none) (kk : ∀ τ, CR μ τ (tell1 a p k).1 → LQ τ (prx a k) → Q (b2i (tell1 a p k).2) τ) : B_Sp_tell_100 NF Q 1 (nI k) (pb p) 0 σ := by
  have hk12 := h.kl hk
  have b1 : ∀ b : Bool, b2i b &&& 1 = b2i b := by decide
  refine w_t rfl ?_
  rw [gr_1_5 h.1]
  unfold tell1 at kk
  rw [hd] at kk
  refine P_Pe_withdraw h.1 hp hk12 (h.2.2.2 p hp) hL (fun e => ⟨by decide, ?_⟩) (fun e τ g1 g2 g3 g4 => ⟨b1 _, ?_⟩)
  · rw [if_pos e] at kk
    exact kk σ h hL
  · rw [if_neg e] at kk
    exact kk τ (h.pe g2 g3 g1) g4
theorem P_tell_a {t : List Int32} (h : CR μ σ a) (hL : LD σ (prx a k) (msgA t (prx a k))) (hp : p < 4) (hk : k < (aPre a).length) (ht : t.length ≤ 33) (hd : dueA a p k = some t) (kk : ∀ τ, CR μ τ (tell1 a p k).1 → LQ τ (prx a k) → Q (b2i (tell1 a p k).2) τ) : B_Sp_tell_100 NF Q 1 (nI k) (pb p) 1 σ := by
  have hk12 := h.kl hk
  have b1 : ∀ b : Bool, b2i b &&& 1 = b2i b := by decide
  refine w_f (by decide) ?_
  rw [gr_1_5 h.1]
  unfold tell1 at kk
  rw [hd] at kk
  refine P_Pe_announce h.1 hp hk12 (h.2.2.2 p hp) (prx_some hk) hL ht (fun e => ⟨by decide, ?_⟩) (fun e τ g1 g2 g3 => ⟨b1 _, ?_⟩)
  · rw [if_pos e] at kk
    exact kk σ h ⟨hL.1, hL.2.1⟩
  · rw [if_neg e] at kk
    exact kk τ (h.pe (g2.mono fun u z => Or.inl z) g3 g1) (CR.lq ⟨hL.1, hL.2.1⟩ g2 (by unfold FPp pb; omega))
theorem CR.fl {τ : rs_Mem} (h : CR μ σ a) (f : Fr FrL σ τ) (hG : Gr τ) : CR μ τ a := h.fr f hG (fun u q => by unfold FrL at q; omega)
theorem P_Sp_tell (h : CR μ σ a) (hpad : okPad a) (hL : LQ σ (prx a k)) (hp : p < 4) (hk : k < (aPre a).length) (kk : ∀ τ, CR μ τ (tell1 a p k).1 → LQ τ (prx a k) → Q (b2i (tell1 a p k).2) τ) : F_Sp_tell NF 1 (nI p) (nI k) (oI (bestO a k)) σ Q := by
  have hk12 := h.kl hk
  have e4 : (4 : Int32) = nI 4 := by decide
  unfold F_Sp_tell
  rw [gr_1_1 h.1, nf_6, nIc (by omega), gr_6 h.1 hp]
  refine ⟨vpn hp (by omega), fun v ev => ?_⟩
  subst ev
  cases hb : bestO a k with
  | none =>
    have hd : dueA a p k = none := by unfold dueA; rw [hb]
    show F_Sp_isMeantFor NF 1 (nI p) (nI k) (-1) σ _
    exact w_t rfl (w_t rfl (w_t rfl (P_tell_w h hL hp hk hd kk)))
  | some w =>
    obtain ⟨hw, hC⟩ := bestO_some hb
    have hd : dueA a p k = dueW a p k w := by unfold dueA; rw [hb]
    have hro := rtW_ok h hk hC hw
    have eo : oI (some w) = nI w := rfl
    rw [eo]
    -- the route of w, and where it lies
    have hrt : ∃ v, RS σ v ∧ RRt σ v (rtW a w k) ∧ (v + 2 < 27 ∨ 28 < v) ∧ (∀ Q2 : Nat → rs_Mem → Prop, Q2 v σ → F_Sp_routeOf NF 1 (nI w) (nI k) σ Q2) ∧ (∀ Q2 : Int32 → rs_Mem → Prop, Q2 (prW a w k) σ → F_Sp_preferenceOf NF 1 (nI w) (nI k) σ Q2) := by
      rcases hro with e | ⟨hw4, hi⟩
      · subst e
        refine ⟨7, RS_own h.1, by unfold rtW; rw [if_pos rfl]; exact h.2.2.1.1, by omega, fun Q2 q => ?_, fun Q2 q => ?_⟩
        · rw [← e4]; exact P_Sp_routeOf4 h.1 q
        · rw [← e4]; exact P_Sp_preferenceOf4 h (by unfold prW at q; rw [if_pos rfl] at q; exact q)
      · refine ⟨pb w + 14 + 3 * k, RS_in h.1 hw4 hk12, ((h.2.2.2 w hw4).2.2.2.2.1 k hk12).2.1 _ hi, by unfold pb; omega, fun Q2 q => P_Sp_routeOf h hw4 hk12 q, fun Q2 q => P_Sp_preferenceOf h hw4 hk hi ?_⟩
        unfold prW at q
        rw [if_neg (by omega)] at q
        exact q
    obtain ⟨v, hS, hr, hv, hro2, hpr2⟩ := hrt
    have hpe := h.2.2.2 p hp
    obtain ⟨n, hn, epad⟩ := hpad p hp
    have epn : (pPad (aPe a p)).toNatClampNeg = n := by rw [epad]; exact nIc (by omega)
    refine P_Sp_isMeantFor h hp hk hw (fun hm => w_f (by decide) ?_) (fun hm => w_t rfl (w_t rfl (P_tell_w h hL hp hk (by rw [hd]; unfold dueW; rw [if_neg hm]) kk)))
    have hd2 := hd
    unfold dueW at hd2
    rw [if_pos hm] at hd2
    rw [hpe.1.1]
    refine ⟨fun hrole => w_f (by decide) (hro2 _ (hpr2 _ ?_)), fun hrole => hro2 _ ?_⟩
    · rw [if_neg hrole] at hd2
      have inw : B_Sp_tell_95 NF Q 1 (nI k) (pb p) 27 v (prW a w k) (idW a w) σ := by
        refine P_Le_writeInward h.1 hL hS hr hv (fun hc τ g1 g2 g3 => ?_) (fun hc => ?_)
        · rw [if_pos hc] at hd2
          exact P_tell_a (h.fl g2 g3) g1 hp hk (attI_len hr.2.2.2.2.2.2.2.2.2.1 hc) hd2 kk
        · rw [if_neg hc] at hd2
          exact P_tell_w h hL hp hk hd2 kk
      rw [gr_1_5 h.1]
      by_cases ew : w = 4
      · subst ew
        rw [← e4]
        have ei : idW a 4 = -1 := by unfold idW; rw [if_pos rfl]
        rw [ei] at inw
        exact P_Sp_isInternal4 (w_t rfl inw)
      · have hw4 : w < 4 := by omega
        refine P_Sp_isInternal h hw4 ⟨fun hz => ?_, fun hz => ?_⟩
        · have hz := b2i_ne.mp hz
          have hz : pRole (aPe a w) = 0 := Classical.not_not.mp (of_decide_eq_false hz)
          have ei : idW a w = -1 := by unfold idW; rw [if_neg ew, if_pos hz]
          rw [ei] at inw
          exact inw
        · rw [gr_1_1 h.1, nf_6, nIc (by omega), gr_6 h.1 hw4, (h.2.2.2 w hw4).1.2.2.2.2.2.2.2.2.2]
          have hz2 : ¬ pRole (aPe a w) = 0 := fun e => hz (by rw [decide_eq_false (fun n => n e)]; rfl)
          have ei : idW a w = pId (aPe a w) := by unfold idW; rw [if_neg ew, if_neg hz2]
          rw [ei] at inw
          exact ⟨vpn hw4 (by omega), inw⟩
    · rw [if_pos hrole, epn] at hd2
      rw [gr_1_5 h.1, hpe.1.2.2.1, epad]
      refine P_Le_writeOutward h.1 hL hS hr hv hn (fun hc τ g1 g2 g3 => ?_) (fun hc => ?_)
      · rw [if_pos hc] at hd2
        exact P_tell_a (h.fl g2 g3) g1 hp hk (attO_len hc) hd2 kk
      · rw [if_neg hc] at hd2
        exact P_tell_w h hL hp hk hd2 kk
end TL
