/-! the model's best, flaw, forward -/
section MCE
variable {μ σ τ σ1 : rs_Mem} {a b : Ab} {p k : Nat} {s : Ps} {c : Int32}
/-- a call that asks fails -/
theorem M_fails {r : Int32 × Int64} {c0 : Int32} {Q : Int32 → rs_Mem → Prop} (g : MR σ1 τ a) (e1 : σ1 = rs_sI σ 281 0 c0) (hc : c ≠ 0) (h1 : r.1 = c) (kk : ResN σ (r.1, r.2, a) Q) : F_Mo_fails NF 281 c τ (fun x52 σ51 => Q x52 σ51) := by
  intro σ2 e2
  have g2 := g.code e2
  exact kk σ2 0 g2 (Fr.tr (g.lx e1) (g2.lx e2)) ((g2.cd e2).trans h1.symm) (fun z => absurd (h1.symm.trans z) hc)
theorem M_best {x y w : Int32} {Q : Int32 → rs_Mem → Prop} (h : MR σ σ a) (hJ : AJ a) (kk : ResN σ ((opBest a x y w).1, (opBest a x y w).2, a) Q) : F_Mo_best NF 281 x y w σ Q := by
  have hW := (AI0_AW hJ.1.1).1
  have hl := hJ.2
  intro σ1 e1
  have g := h.code e1
  have b23 : ¬ (isPfx x y ∧ 0 ≤ w ∧ w ≤ 21) → B_Mo_best_23 NF Q 281 σ1 := fun hc => M_fails g e1 n10 (by unfold opBest; rw [if_pos hc]) kk
  refine P_Mo_isPrefix (fun hx => w_f (by decide) ⟨fun hw => b23 (fun n => by have := n.2.1; grind), fun hw => ⟨fun hw2 => ?_, fun hw2 => b23 (fun n => hw2 n.2.2)⟩⟩) (fun hx => w_t rfl (b23 (fun n => hx n.1)))
  have hg : isPfx x y ∧ 0 ≤ w ∧ w ≤ 21 := ⟨hx, by grind, hw2⟩
  have i0 : (0 : Int32) = nI 0 := by decide
  refine P_Mo_find g.1 g.2.1 (fun hm => ?_) (fun hm => w_f (by decide) (w_f (by decide) (M_fails g e1 n20 (by unfold opBest; rw [if_neg (fun n => n hg), if_pos hm]) kk)))
  have hk := mem_lt hm
  generalize hK : (aPre a).idxOf (x, y) = k at hk
  have hk12 : k < 12 := by omega
  refine w_t (by rw [i0, nIle (by omega) (by omega)]; omega) (P_Mo_bestOf g hW hk (fun τ t1 t2 => ?_))
  cases hb : bestO a k with
  | none => exact w_f (by decide) (M_fails t1 e1 n20 (by unfold opBest; rw [if_neg (fun n => n hg), if_neg (fun n => n hm), hK, hb]) kk)
  | some z =>
    obtain ⟨hz, hC⟩ := bestO_some hb
    have eop : opBest a x y w = (0, (if w = 0 then nI z else if w = 1 then prW a z k else detV (rtW a z k) w).toInt64) := by
      unfold opBest; rw [if_neg (fun n => n hg), if_neg (fun n => n hm), hK, hb]
    obtain ⟨⟨ex, hrt⟩, -, -⟩ := mrW t1 hW hk12 hz hC
    obtain ⟨a1, a2, a3, a4, a5, a6, a7, a8, a9, a10, a11⟩ := hrt
    obtain ⟨r, hr⟩ : ∃ r, r = 12 * z + k := ⟨_, rfl⟩
    rw [← hr] at a1 a2 a3 a4 a5 a6 a7 a8 a9
    have hr60 : r < 60 := by omega
    have vr : vp_in (nI r) 61 := vpn (by omega) (by omega)
    have fin : ∀ v : Int32, v = (if w = 0 then nI z else if w = 1 then prW a z k else detV (rtW a z k) w) → Q v τ := fun v hv => doneN (r := (0, (if w = 0 then nI z else if w = 1 then prW a z k else detV (rtW a z k) w).toInt64, a)) t1 e1 rfl rfl (fun _ => by rw [hv]) (by rw [eop] at kk; exact kk)
    have eo : oI (some z) = nI z := rfl
    have e12 : (12 : Int32) = nI 12 := by decide
    have e8 : (8 : Int32) = nI 8 := by decide
    have e6 : (6 : Int32) = nI 6 := by decide
    have e16 : (16 : Int32) = nI 16 := by decide
    rw [eo]
    unfold B_Mo_best_52
    refine w_t (by rw [i0, nIle (by omega) (by omega)]; omega) (fun x9 ex9 => ?_)
    rw [e12, nI_mul, nI_add, ← hr] at ex9
    subst ex9
    rw [gr_281_25 t1.1, gr_281_26 t1.1, gr_281_27 t1.1, gr_281_28 t1.1, gr_281_29 t1.1, gr_281_31 t1.1, gr_281_32 t1.1, gr_281_33 t1.1, nf_304, nf_305, nf_306, nf_307, nf_308, nf_310, nf_311, nf_312, nIc (n := r) (by omega), a1, a2, a4, a5, a7, a8]
    refine ⟨fun h15 => ⟨fun h7 => ⟨fun h2 => ⟨fun h4 => ⟨fun n4 => ⟨fun n5 => ⟨fun n6 => ⟨vr, fin _ ?_⟩, fun y6 => ⟨vr, fin _ ?_⟩⟩, fun y5 => ⟨vr, fin _ ?_⟩⟩, fun y4 => ⟨vr, fin _ ?_⟩⟩, fun n4 => ⟨fun n2 => ⟨vr, fin _ ?_⟩, fun y2 => ⟨vr, fin _ ?_⟩⟩⟩, fun n2 => ⟨fun n0 => ?_, fun y0 => fin _ ?_⟩⟩, fun n7 => ?_⟩, fun n15 => ?_⟩
    · have : w = 7 := by grind
      subst this; rfl
    · subst y6; rfl
    · subst y5; rfl
    · subst y4; rfl
    · have : w = 3 := by grind
      subst this; rfl
    · subst y2; rfl
    · have h1 : w = 1 := by grind
      refine valW t1 hW hk hz hC (fin _ ?_)
      rw [if_neg n0, if_pos h1]
    · rw [if_pos y0]
    · obtain ⟨W, hW', rfl⟩ := nI_of2 (n := 21) (x := w) (M := 21) (by decide) (by grind) hw2
      have hlo : 8 ≤ W := by
        have e7 : (7 : Int32) = nI 7 := by decide
        rw [e7, nIle (by omega) (by omega)] at n7; omega
      have hhi : W ≤ 15 := by
        have e15 : (15 : Int32) = nI 15 := by decide
        rw [e15, nIle (by omega) (by omega)] at h15; exact h15
      have ne : ∀ (j : Nat) (c : Int32), c = nI j → j < 8 → ¬ nI W = c := fun j c hc hj q => by rw [hc, nIeq (by omega) (by omega)] at q; omega
      have hd : (if nI W = 0 then nI z else if nI W = 1 then prW a z k else detV (rtW a z k) (nI W)) = (if W - 8 < (rtA (rtW a z k)).length then (rtA (rtW a z k)).getD (W - 8) 0 else 0) := by
        rw [if_neg (ne 0 0 i0 (by omega)), if_neg (ne 1 1 (by decide) (by omega))]
        unfold detV
        rw [if_neg (ne 2 2 (by decide) (by omega)), if_neg (ne 3 3 (by decide) (by omega)), if_neg (ne 4 4 (by decide) (by omega)), if_neg (ne 5 5 (by decide) (by omega)), if_neg (ne 6 6 (by decide) (by omega)), if_neg (ne 7 7 (by decide) (by omega)), if_pos (by rw [e16, nIlt (by omega) (by omega)]; omega), e8, nIsub (by omega), nIc (by omega)]
        by_cases hlt : W - 8 < (rtA (rtW a z k)).length
        · rw [if_pos hlt, if_pos ⟨nn_nI (by omega), (nIlt (by omega) (by omega)).mpr hlt⟩]
        · rw [if_neg hlt, if_neg (fun q => hlt ((nIlt (by omega) (by omega)).mp q.2))]
      rw [hd] at fin
      rw [e8, nI_mul, nI_add, nIsub (by omega), nIsub (by omega), nIle (by omega) (by omega), nIc (n := 8 * r + W - 8) (by omega)]
      refine ⟨vr, fun hle => fin _ (by rw [if_neg (by omega)]), fun hgt => ⟨vpn (by omega) (by omega), fin _ ?_⟩⟩
      rw [if_pos (by omega), show 8 * r + W - 8 = 8 * r + (W - 8) by omega, a3 (W - 8) (by omega), List.getD_eq_getElem?_getD, List.getElem?_eq_getElem (by omega)]
      rfl
    · obtain ⟨W, hW', rfl⟩ := nI_of2 (n := 21) (x := w) (M := 21) (by decide) (by grind) hw2
      have hlo : 16 ≤ W := by
        have e15 : (15 : Int32) = nI 15 := by decide
        rw [e15, nIle (by omega) (by omega)] at n15; omega
      have hhi : W ≤ 21 := by
        have e21 : (21 : Int32) = nI 21 := by decide
        rw [e21, nIle (by omega) (by omega)] at hw2; exact hw2
      have ne : ∀ (j : Nat) (c : Int32), c = nI j → j < 8 → ¬ nI W = c := fun j c hc hj q => by rw [hc, nIeq (by omega) (by omega)] at q; omega
      have hd : (if nI W = 0 then nI z else if nI W = 1 then prW a z k else detV (rtW a z k) (nI W)) = (if W - 16 < (rtC (rtW a z k)).length then (rtC (rtW a z k)).getD (W - 16) 0 else 0) := by
        rw [if_neg (ne 0 0 i0 (by omega)), if_neg (ne 1 1 (by decide) (by omega))]
        unfold detV
        rw [if_neg (ne 2 2 (by decide) (by omega)), if_neg (ne 3 3 (by decide) (by omega)), if_neg (ne 4 4 (by decide) (by omega)), if_neg (ne 5 5 (by decide) (by omega)), if_neg (ne 6 6 (by decide) (by omega)), if_neg (ne 7 7 (by decide) (by omega)), if_neg (by rw [e16, nIlt (by omega) (by omega)]; omega), e16, nIsub (by omega), nIc (by omega)]
        by_cases hlt : W - 16 < (rtC (rtW a z k)).length
        · rw [if_pos hlt, if_pos ⟨nn_nI (by omega), (nIlt (by omega) (by omega)).mpr hlt⟩]
        · rw [if_neg hlt, if_neg (fun q => hlt ((nIlt (by omega) (by omega)).mp q.2))]
      rw [hd] at fin
      rw [e16, e6, nI_mul, nI_add, nIsub (by omega), nIsub (by omega), nIle (by omega) (by omega), nIc (n := 6 * r + W - 16) (by omega)]
      refine ⟨vr, fun hle => fin _ (by rw [if_neg (by omega)]), fun hgt => ⟨vpn (by omega) (by omega), fin _ ?_⟩⟩
      rw [if_pos (by omega), show 6 * r + W - 16 = 6 * r + (W - 16) by omega, a9 (W - 16) (by omega), List.getD_eq_getElem?_getD, List.getElem?_eq_getElem (by omega)]
      rfl
theorem M_flaw {x y z : Int32} {Q : Int32 → rs_Mem → Prop} (h : MR σ σ a) (hJ : AJ a) (kk : ResN σ ((opFlaw a x y z).1, (opFlaw a x y z).2, a) Q) : F_Mo_flaw NF 281 x y z σ Q := by
  have hA := AI0_AW hJ.1.1
  have hl := hJ.2
  have e12 : (12 : Int32) = nI 12 := by decide
  have b20 : ¬ (okP x ∧ isPfx y z) → B_Mo_flaw_20 NF Q 281 x y z 281 σ := fun hc σ1 e1 => by
    have g := h.code e1
    have eop : opFlaw a x y z = (1, 0) := by unfold opFlaw; rw [if_pos hc]
    rw [eop] at kk
    exact w_f (by rw [e1, I_same]; decide) (doneN (r := (1, 0, a)) g e1 rfl rfl (fun q => absurd q n10) kk)
  unfold F_Mo_flaw
  refine P_Mo_isPeer (fun hx => w_f (by decide) (P_Mo_isPrefix (fun hy => w_f (by decide) (fun σ1 e1 => ?_)) (fun hy => w_t rfl (b20 (fun q => hy q.2))))) (fun hx => w_t rfl (b20 (fun q => hx q.1)))
  have g := h.code e1
  obtain ⟨p, hp, rfl⟩ := okP_of hx
  refine w_t (by rw [e1]; exact I_same) (P_Mo_find g.1 g.2.1 (fun hm => w_f (nI_pos (by have := mem_lt hm; omega)) ?_) (fun hm => w_t (by decide) ?_))
  rotate_left
  · unfold B_Mo_flaw_61
    exact M_fails g e1 n20 (by unfold opFlaw; rw [if_neg (fun q => q ⟨hx, hy⟩), if_pos hm]) kk
  have hk := mem_lt hm
  generalize hK : (aPre a).idxOf (y, z) = k at hk
  have hk12 : k < 12 := by omega
  obtain ⟨t1, t2, t3, t4⟩ := (g.2.2.2 p hp).2.2.2.2.1 k hk12
  rw [e12, nI_mul, nI_add, gr_281_24 g.1, nf_303, nIc (by omega), t1]
  refine ⟨vpn (by omega) (by omega), fun hz => ?_, fun hz => ?_⟩
  rotate_left
  · have hn : pInc (aPe a p) k = none := by
      have := b2i_ne.mp hz
      cases hc : pInc (aPe a p) k with
      | none => rfl
      | some r => rw [hc] at this; cases this
    unfold B_Mo_flaw_61
    exact M_fails g e1 n20 (by unfold opFlaw; rw [if_neg (fun q => q ⟨hx, hy⟩), if_neg (fun q => q hm), tN_nI (by omega), hK, hn]) kk
  obtain ⟨rt, hrt⟩ : ∃ rt, pInc (aPe a p) k = some rt := by
    cases hc : pInc (aPe a p) k with
    | none => rw [hc] at hz; exact absurd rfl hz
    | some rt => exact ⟨rt, rfl⟩
  have eop : opFlaw a (nI p) y z = (0, (flw (aPe a p) k rt (prx a k)).toInt64) := by
    unfold opFlaw; rw [if_neg (fun q => q ⟨hx, hy⟩), if_neg (fun q => q hm), tN_nI (by omega), hK, hrt]
  rw [eop] at kk
  intro x9 ex9
  subst ex9
  have b105 : ∀ y0 y1 : Int32, y0 = (if rBar rt then 1 else 0) → y1 = (if pDmp (aPe a p) k = true then 2 else 0) → B_Mo_flaw_105 NF Q 281 (nI p) (nI k) y0 y1 σ1 := fun y0 y1 h0 h1 => by
    unfold B_Mo_flaw_105
    refine P_Mo_isRejected g hp hk (hA.1.2 p hp).1 hA.1.1 ⟨fun q => ?_, fun q => ?_⟩
    · have q := of_decide_eq_false (b2i_ne.mp q)
      exact doneN (r := (0, (flw (aPe a p) k rt (prx a k)).toInt64, a)) g e1 rfl rfl (fun _ => by unfold flw; rw [if_neg q, h0, h1]) kk
    · have q : act (pRul (aPe a p)) (prx a k).1 (prx a k).2 = 0 := by
        by_cases e : act (pRul (aPe a p)) (prx a k).1 (prx a k).2 = 0
        · exact e
        · rw [decide_eq_false e] at q; exact absurd rfl q
      exact doneN (r := (0, (flw (aPe a p) k rt (prx a k)).toInt64, a)) g e1 rfl rfl (fun _ => by unfold flw; rw [if_pos q, h0, h1]) kk
  have b90 : ∀ y0 : Int32, y0 = (if rBar rt then 1 else 0) → B_Mo_flaw_90 NF Q 281 (nI p) (nI k) (nI (12 * p + k)) y0 σ1 := fun y0 h0 => by
    unfold B_Mo_flaw_90
    rw [gr_281_35 g.1, nf_314, nIc (by omega), t4]
    refine ⟨vpn (by omega) (by omega), fun q => b105 y0 0 h0 ?_, fun q => b105 y0 2 h0 ?_⟩
    · rw [if_neg (by rw [b2i_ne.mp q]; decide)]
    · have q : pDmp (aPe a p) k = true := by
        cases hd : pDmp (aPe a p) k with
        | true => rfl
        | false => rw [hd] at q; exact absurd rfl q
      rw [if_pos q]
  refine P_Mo_isBarred g.1 (by omega) (t2 rt hrt) ⟨fun q => b90 0 ?_, fun q => b90 1 ?_⟩
  · rw [if_neg (of_decide_eq_false (b2i_ne.mp q))]
  · have q : rBar rt := by
      by_cases e : rBar rt
      · exact e
      · rw [decide_eq_false e] at q; exact absurd rfl q
    rw [if_pos q]
theorem M_fwd {x : Int32} {Q : Int32 → rs_Mem → Prop} (h : MR σ σ a) (hJ : AJ a) (kk : ResN σ ((opFwd a x).1, (opFwd a x).2, a) Q) : F_Mo_forward NF 281 x σ Q := by
  have hA := AI0_AW hJ.1.1
  have hl := hJ.2
  have i0 : (0 : Int32) = nI 0 := by decide
  intro σ1 e1
  have g := h.code e1
  have b16 : ¬ (0 ≤ x ∧ x ≤ 255) → B_Mo_forward_16 NF Q 281 σ1 := fun hc => M_fails g e1 n10 (by unfold opFwd; rw [if_pos hc]) kk
  refine ⟨fun hx => b16 (fun n => by have := n.1; grind), fun hx => ⟨fun hx2 => ?_, fun hx2 => b16 (fun n => hx2 n.2)⟩⟩
  have hx0 : 0 ≤ x := by grind
  have key : ∀ d k τ (x2 : Int32), k + d = (aPre a).length → MR σ1 τ a → ((x2 = -1 ∧ fwd a x k = (-1, -1)) ∨ ∃ j, j < k ∧ x2 = nI j ∧ fwd a x k = ((prx a j).1, oI (bestO a j)) ∧ bestO a j ≠ none) → L_Mo_forward_26 NF Q (d + 1) 281 x x2 (nI k) τ := by
    intro d
    induction d with
    | zero =>
      intro k τ x2 hk r1 r2
      have e : k = (aPre a).length := by omega
      subst e
      refine w_t (by rw [r1.2.1.1]; exact (nIle (by omega) (by omega)).mpr (by omega)) ?_
      rcases r2 with ⟨rfl, hf⟩ | ⟨j, hj, rfl, hf, hb⟩
      · exact w_f (by decide) (M_fails r1 e1 n20 (by unfold opFwd; rw [if_neg (fun n => n ⟨hx0, hx2⟩), hf, if_pos rfl]) kk)
      · refine w_t (by rw [i0, nIle (by omega) (by omega)]; omega) (P_Mo_bestOf r1 hA.1 hj (fun ρ t1 t2 => ?_))
        have hne : ¬ oI (bestO a j) = -1 := fun q => by
          cases hbo : bestO a j with
          | none => exact hb hbo
          | some w => rw [hbo] at q; exact nIm1 (by have := (bestO_some hbo).1; omega) q
        have eop : opFwd a x = (0, (oI (bestO a j)).toInt64) := by unfold opFwd; rw [if_neg (fun n => n ⟨hx0, hx2⟩), hf, if_neg hne]
        rw [eop] at kk
        exact doneN (r := (0, (oI (bestO a j)).toInt64, a)) t1 e1 rfl rfl (fun _ => rfl) kk
    | succ d ih =>
      intro k τ x2 hk r1 r2
      have hkl : k < (aPre a).length := by omega
      have hk12 : k < 12 := by omega
      have hq := wfP_at hA.1.1 hkl
      refine w_f (fun z => by rw [r1.2.1.1] at z; have := (nIle (by omega) (by omega)).mp z; omega) ?_
      have same : ∀ ρ, MR σ1 ρ a → ¬ ((fwd a x k).1 < (prx a k).1 ∧ isWi 8 x (prx a k).1 (prx a k).2 ∧ bestO a k ≠ none) → B_Mo_forward_98 NF (L_Mo_forward_26 NF Q (d + 1)) Q 281 x x2 (nI k) ρ := fun ρ t1 hn y ey => by
        subst ey
        rw [nI_1]
        have e : fwd a x (k + 1) = fwd a x k := if_neg hn
        refine ih (k + 1) ρ x2 (by omega) t1 ?_
        rw [e]
        exact r2.imp id (fun ⟨j, q1, q2⟩ => ⟨j, by omega, q2⟩)
      have new : ∀ ρ, MR σ1 ρ a → ((fwd a x k).1 < (prx a k).1 ∧ isWi 8 x (prx a k).1 (prx a k).2 ∧ bestO a k ≠ none) → B_Mo_forward_94 NF (L_Mo_forward_26 NF Q (d + 1)) Q 281 x (nI k) ρ := fun ρ t1 hn y ey => by
        subst ey
        rw [nI_1]
        have e : fwd a x (k + 1) = ((prx a k).1, oI (bestO a k)) := if_pos hn
        exact ih (k + 1) ρ (nI k) (by omega) t1 (Or.inr ⟨k, by omega, rfl, e, hn.2.2⟩)
      have b67 : ∀ ρ, MR σ1 ρ a → ¬ ((fwd a x k).1 < (prx a k).1 ∧ isWi 8 x (prx a k).1 (prx a k).2 ∧ bestO a k ≠ none) → B_Mo_forward_67 NF (L_Mo_forward_26 NF Q (d + 1)) Q 281 x x2 (nI k) ρ := fun ρ t1 hn => by
        unfold B_Mo_forward_67 B_Mo_forward_68
        exact w_t rfl (same ρ t1 hn)
      rw [gr_281_22 r1.1, gr_281_23 r1.1, nf_301, nf_302, nIc (by omega), (r1.prx_at hkl).1, (r1.prx_at hkl).2]
      refine ⟨vpn hk12 (by omega), vpn hk12 (by omega), P_Mo_isWithin hq hx0 hx2 (fun hw => w_f (by decide) (P_Mo_bestOf r1 hA.1 hkl (fun ρ t1 t2 => ?_))) (fun hw => w_t rfl (b67 τ r1 (fun n => hw n.2.1)))⟩
      cases hb : bestO a k with
      | none => exact w_t (by decide) (b67 ρ t1 (fun n => n.2.2 hb))
      | some w =>
        have hw5 := (bestO_some hb).1
        have hbn : bestO a k ≠ none := by rw [hb]; exact fun q => by cases q
        have eo : oI (some w) = nI w := rfl
        rw [eo]
        refine w_f (nI_pos (by omega)) ?_
        unfold B_Mo_forward_68
        refine w_f (by decide) ?_
        rcases r2 with ⟨rfl, hf⟩ | ⟨j, hj, rfl, hf, hbj⟩
        · refine w_t (by decide) (new ρ t1 ⟨?_, hw, hbn⟩)
          rw [hf]
          have := hq.1
          show (-1 : Int32) < (prx a k).1
          grind
        · refine w_f (nI_pos (by omega)) ?_
          rw [gr_281_22 t1.1, nf_301, nIc (n := k) (by omega), nIc (n := j) (by omega), (t1.prx_at hkl).1, (t1.prx_at (by omega : j < (aPre a).length)).1]
          refine ⟨vpn hk12 (by omega), vpn (by omega) (by omega), fun hle => same ρ t1 (fun n => ?_), fun hgt => new ρ t1 ⟨?_, hw, hbn⟩⟩
          · have := n.1
            rw [hf] at this
            have this : (prx a j).1 < (prx a k).1 := this
            grind
          · rw [hf]
            show (prx a j).1 < (prx a k).1
            grind
  exact ⟨_, key (aPre a).length 0 σ1 (-1) (by omega) g (Or.inl ⟨rfl, rfl⟩)⟩
end MCE
