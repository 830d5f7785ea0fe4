/-! the class's calls that ask -/
def sesV (s : Ps) (w : Int32) : Int32 :=
  if w = 0 then pSt s else if w = 1 then pHt s else if w = 2 then pKt s else if w = 3 then pHo s else if w = 4 then pId s else if w = 5 then nI (pOut s).length else if w = 6 then nI (pInb s).length else -1
def opSess (a : Ab) (x w : Int32) : Int32 := if ¬ okP x then -1 else sesV (aPe a (tN x)) w
def detV (r : Rt) (w : Int32) : Int32 :=
  if w = 2 then rtO r else if w = 3 then nI (rtA r).length else if w = 4 then rtN r else if w = 5 then rtM r else if w = 6 then rtS r else if w = 7 then nI (rtC r).length
  else if w < 16 then (if 0 ≤ w - 8 ∧ w - 8 < nI (rtA r).length then (rtA r).getD (w - 8).toNatClampNeg 0 else 0)
  else (if 0 ≤ w - 16 ∧ w - 16 < nI (rtC r).length then (rtC r).getD (w - 16).toNatClampNeg 0 else 0)
def opBest (a : Ab) (x y w : Int32) : Int32 × Int64 :=
  if ¬ (isPfx x y ∧ 0 ≤ w ∧ w ≤ 21) then (1, 0)
  else if (x, y) ∉ aPre a then (2, 0)
  else match bestO a ((aPre a).idxOf (x, y)) with
    | none => (2, 0)
    | some z => (0, (if w = 0 then nI z else if w = 1 then prW a z ((aPre a).idxOf (x, y)) else detV (rtW a z ((aPre a).idxOf (x, y))) w).toInt64)
def opFlaw (a : Ab) (x y z : Int32) : Int32 × Int64 :=
  if ¬ (okP x ∧ isPfx y z) then (1, 0)
  else if (y, z) ∉ aPre a then (2, 0)
  else match pInc (aPe a (tN x)) ((aPre a).idxOf (y, z)) with
    | none => (2, 0)
    | some r => (0, (flw (aPe a (tN x)) ((aPre a).idxOf (y, z)) r (prx a ((aPre a).idxOf (y, z)))).toInt64)
def opPen (a : Ab) (x y z : Int32) : Int32 × UInt64 :=
  if ¬ (okP x ∧ isPfx y z) then (1, 0)
  else if (y, z) ∉ aPre a then (0, FP.dconst0)
  else (0, pPen (aPe a (tN x)) ((aPre a).idxOf (y, z)))
/-- the way of an address: the longest prefix so far, and who has it -/
def fwd (a : Ab) (x : Int32) : Nat → Int32 × Int32
  | 0 => (-1, -1)
  | k + 1 => if (fwd a x k).1 < (prx a k).1 ∧ isWi 8 x (prx a k).1 (prx a k).2 ∧ bestO a k ≠ none then ((prx a k).1, oI (bestO a k)) else fwd a x k
def opFwd (a : Ab) (x : Int32) : Int32 × Int64 :=
  if ¬ (0 ≤ x ∧ x ≤ 255) then (1, 0)
  else if (fwd a x (aPre a).length).2 = -1 then (2, 0) else (0, (fwd a x (aPre a).length).2.toInt64)
def ResA (μ : rs_Mem) (a : Ab) (r : Int32 × Int64) (Q : Int32 → rs_Mem → Prop) : Prop := ResL μ (r.1, r.2, a) Q
def ResD (μ : rs_Mem) (a : Ab) (r : Int32 × UInt64) (Q : Int32 → rs_Mem → Prop) : Prop := ∀ τ, CR μ τ a → (r.1 = 0 → rs_D τ 321 0 = r.2) → Q r.1 τ
section CC
variable {μ σ : rs_Mem} {a : Ab} {Q : Int32 → rs_Mem → Prop}
theorem C_session {x w : Int32} (h : CR μ σ a) (kk : Q (opSess a x w) σ) : F_Sp_session NF 1 x w σ Q := by
  unfold opSess at kk
  unfold F_Sp_session
  refine P_peerNo (fun hx => v_f (by decide) ?_) (fun hx => v_t rfl (by rw [if_pos hx] at kk; exact kk))
  rw [if_neg (fun n => n hx)] at kk
  obtain ⟨p, hp, rfl⟩ := okP_of hx
  have hs := h.2.2.2 p hp
  rw [tN_nI (by omega)] at kk
  obtain ⟨a0, a1, a2, a3, a4, a6, a7, a8, a9, a10⟩ := hs.1
  rw [gr_1_1 h.1, nf_6, nIc (by omega), gr_6 h.1 hp]
  refine ⟨vpn hp (by omega), fun v ev => ?_⟩
  subst ev
  rw [a6, a7, a8, a9, a10, gp_0_13 h.1 hp, hs.2.2.1.len.1, hs.2.1.1]
  unfold sesV at kk
  refine ⟨fun hd => ?_, fun e => ?_, fun e => ?_, fun e => ?_, fun e => ?_, fun e => ?_, fun e => ?_, fun e => ?_⟩
  · have nn : ∀ k : Int32, 0 ≤ k.toInt → k.toInt ≤ 6 → w ≠ k := fun k h1 h2 e => by rw [e] at hd; omega
    rw [if_neg (nn 0 (by decide) (by decide)), if_neg (nn 1 (by decide) (by decide)), if_neg (nn 2 (by decide) (by decide)), if_neg (nn 3 (by decide) (by decide)), if_neg (nn 4 (by decide) (by decide)), if_neg (nn 5 (by decide) (by decide)), if_neg (nn 6 (by decide) (by decide))] at kk
    exact kk
  · subst e; exact kk
  · subst e; exact kk
  · subst e; exact kk
  · subst e; exact kk
  · subst e; exact kk
  · subst e; exact kk
  · subst e; exact kk
theorem C_known (h : CR μ σ a) (kk : Q (nI (aPre a).length) σ) : F_Sp_known NF 1 σ Q := by
  unfold F_Sp_known
  rw [gr_1_0 h.1, h.2.1.1]
  exact kk
theorem P_Ro_detail {v : Nat} {r : Rt} {w : Int32} (hS : RS σ v) (hr : RRt σ v r) (hw : 2 ≤ w) (kk : Q (detV r w) σ) : F_Ro_detail NF v w σ Q := by
  obtain ⟨s1, s2, s3, s4⟩ := hS
  obtain ⟨a, b, c, d, e, g, i, j, k, l, m⟩ := hr
  unfold F_Ro_detail
  unfold detV at kk
  rw [s1, s2, a, b, c, d, g, i]
  refine ⟨fun hd => ?_, fun e => ?_, fun e => ?_, fun e => ?_, fun e => ?_, fun e => ?_, fun e => ?_⟩
  · have nn : ∀ k : Int32, 2 ≤ k.toInt → k.toInt ≤ 7 → w ≠ k := fun k h1 h2 e => by rw [e] at hd; omega
    rw [if_neg (nn 2 (by decide) (by decide)), if_neg (nn 3 (by decide) (by decide)), if_neg (nn 4 (by decide) (by decide)), if_neg (nn 5 (by decide) (by decide)), if_neg (nn 6 (by decide) (by decide)), if_neg (nn 7 (by decide) (by decide))] at kk
    refine ⟨fun h16 => ?_, fun h16 => ?_⟩
    · rw [if_neg (by grind)] at kk
      exact P_Ro_itemOf k (by omega) (by omega) kk
    · rw [if_pos (by grind)] at kk
      exact P_Ro_itemOf j (by omega) (by omega) kk
  · subst e; exact kk
  · subst e; exact kk
  · subst e; exact kk
  · subst e; exact kk
  · subst e; exact kk
  · subst e; exact kk
theorem P_chooseN (kk : Q (-1) σ) : F_Sp_chooseFor NF 1 (-1) σ Q := v_t rfl kk
theorem C_best {x y w : Int32} (h : CR μ σ a) (kk : ResA μ a (opBest a x y w) Q) : F_La_best NF 1 x y w 320 σ Q := by
  have bad : ¬ (isPfx x y ∧ 0 ≤ w ∧ w ≤ 21) → ((1 : Nat) = 1 ∧ Q 1 σ) ∨ ((1 : Nat) = 3 ∧ Q 2 σ) := fun hc => by
    unfold opBest at kk
    rw [if_pos hc] at kk
    exact Or.inl ⟨rfl, kk σ h (fun z => (n10 z).elim)⟩
  unfold F_La_best F_Sp_best
  refine P_Sp_isPrefix (fun hx => w_f (by decide) ⟨fun hw => bad (fun n => by have := n.2.1; grind), fun hw => ⟨fun hw2 => ?_, fun hw2 => bad (fun n => hw2 n.2.2)⟩⟩) (fun hx => w_t rfl (bad (fun n => hx n.1)))
  have hg : isPfx x y ∧ 0 ≤ w ∧ w ≤ 21 := ⟨hx, by grind, hw2⟩
  unfold opBest at kk
  rw [if_neg (fun n => n hg)] at kk
  rw [gr_1_0 h.1]
  refine P_Px_find h.1 h.2.1 (fun hm => ?_) (fun hm => P_chooseN (v_t rfl (Or.inr ⟨rfl, ?_⟩)))
  rotate_left
  · rw [if_pos hm] at kk
    exact kk σ h (fun z => (n20 z).elim)
  rw [if_neg (fun n => n hm)] at kk
  generalize hK : (aPre a).idxOf (x, y) = k at kk
  have hk : k < (aPre a).length := by rw [← hK]; exact mem_lt hm
  refine P_Sp_chooseFor h hk (fun τ c1 c2 => ?_)
  cases hb : bestO a k with
  | none =>
    rw [hb] at kk
    exact v_t rfl (Or.inr ⟨rfl, kk τ c1 (fun z => (n20 z).elim)⟩)
  | some z =>
    rw [hb] at kk
    obtain ⟨hz, hC⟩ := bestO_some hb
    have hk12 := c1.kl hk
    have eo : oI (some z) = nI z := rfl
    have e4 : (4 : Int32) = nI 4 := by decide
    rw [eo]
    have hro := rtW_ok c1 hk hC hz
    refine v_f (nIm1 (by omega)) ⟨fun h0 => ⟨vp320, fun e he => ?_⟩, fun h0 => ⟨fun h1 => ?_, fun h1 => ?_⟩⟩
    · simp only [if_pos h0] at kk
      exact out0 (r := (0, _, a)) c1 rfl rfl kk he
    · simp only [if_neg h0, if_pos h1] at kk
      have fin : ∀ e, e = rs_sL τ 320 (0 : Int32).toNatClampNeg (prW a z k).toInt64 → Q 0 e := fun e he => out0 (r := (0, _, a)) c1 rfl rfl kk he
      rcases hro with ez | ⟨hz4, hi⟩
      · subst ez
        rw [← e4]
        refine P_Sp_preferenceOf4 c1 ⟨vp320, fun e he => fin e ?_⟩
        unfold prW; rw [if_pos rfl]; exact he
      · refine P_Sp_preferenceOf c1 hz4 hk hi ⟨vp320, fun e he => fin e ?_⟩
        unfold prW; rw [if_neg (by omega)]; exact he
    · simp only [if_neg h0, if_neg h1] at kk
      have fin : ∀ e, e = rs_sL τ 320 (0 : Int32).toNatClampNeg (detV (rtW a z k) w).toInt64 → Q 0 e := fun e he => out0 (r := (0, _, a)) c1 rfl rfl kk he
      have hw2' : 2 ≤ w := by grind
      rcases hro with ez | ⟨hz4, hi⟩
      · subst ez
        rw [← e4]
        have er : rtW a 4 k = ownR := by unfold rtW; rw [if_pos rfl]
        rw [er] at fin
        exact P_Sp_routeOf4 c1.1 (P_Ro_detail (RS_own c1.1) c1.2.2.1.1 hw2' ⟨vp320, fun e he => fin e he⟩)
      · exact P_Sp_routeOf c1 hz4 hk12 (P_Ro_detail (RS_in c1.1 hz4 hk12) (((c1.2.2.2 z hz4).2.2.2.2.1 k hk12).2.1 _ hi) hw2' ⟨vp320, fun e he => fin e he⟩)
theorem C_flaw {x y z : Int32} (h : CR μ σ a) (kk : ResA μ a (opFlaw a x y z) Q) : F_La_flaw NF 1 x y z 320 σ Q := by
  have bad : ¬ (okP x ∧ isPfx y z) → ((1 : Nat) = 1 ∧ Q 1 σ) ∨ ((1 : Nat) = 3 ∧ Q 2 σ) := fun hc => by
    unfold opFlaw at kk
    rw [if_pos hc] at kk
    exact Or.inl ⟨rfl, kk σ h (fun z => (n10 z).elim)⟩
  unfold F_La_flaw F_Sp_flaw
  refine P_peerNo (fun hx => w_f (by decide) (P_Sp_isPrefix (fun hy => v_f (by decide) ?_) (fun hy => v_t rfl (bad (fun n => hy n.2))))) (fun hx => w_t rfl (bad (fun n => hx n.1)))
  unfold opFlaw at kk
  rw [if_neg (fun n => n ⟨hx, hy⟩)] at kk
  obtain ⟨p, hp, rfl⟩ := okP_of hx
  rw [tN_nI (by omega)] at kk
  rw [gr_1_0 h.1]
  refine P_Px_find h.1 h.2.1 (fun hm => ?_) (fun hm => ⟨by rw [gr_1_1 h.1, nf_6]; exact vpn hp (by omega), ?_⟩)
  · rw [if_neg (fun n => n hm)] at kk
    generalize hK : (aPre a).idxOf (y, z) = k at kk
    have hk : k < (aPre a).length := by rw [← hK]; exact mem_lt hm
    have hk12 := h.kl hk
    rw [gr_1_1 h.1, nf_6, nIc (by omega), gr_6 h.1 hp, gp_0_15 h.1 hp]
    refine ⟨vpn hp (by omega), P_In_has h.1 hp hk12 ((h.2.2.2 p hp).2.2.2.2.1 k hk12) ?_⟩
    cases hi : pInc (aPe a p) k with
    | none =>
      rw [hi] at kk
      exact v_t rfl (Or.inr ⟨rfl, kk σ h (fun z => (n20 z).elim)⟩)
    | some r =>
      rw [hi] at kk
      exact v_f (by rw [show (some r : Option Rt).isSome = true from rfl]; decide) (P_Sp_flawsOf h hp hk hi ⟨vp320, fun e he => out0 (r := (0, _, a)) h rfl rfl kk he⟩)
  · rw [if_pos hm] at kk
    rw [gr_1_1 h.1, nIc (by omega), gr_6 h.1 hp, gp_0_15 h.1 hp]
    exact P_In_hasN (v_t rfl (Or.inr ⟨rfl, kk σ h (fun z => (n20 z).elim)⟩))
theorem D_same {k i : Nat} {v : UInt64} : rs_D (rs_sD σ k i v) k i = v := if_pos ⟨rfl, rfl⟩
theorem C_pen {x y z : Int32} (h : CR μ σ a) (kk : ResD μ a (opPen a x y z) Q) : F_La_penalty NF 1 x y z 321 σ Q := by
  have bad : ¬ (okP x ∧ isPfx y z) → ((1 : Nat) = 1 ∧ Q 1 σ) := fun hc => by
    unfold opPen at kk
    rw [if_pos hc] at kk
    exact ⟨rfl, kk σ h (fun z => (n10 z).elim)⟩
  have t0 : (0 : Int32).toNatClampNeg = 0 := by decide
  have fin : ∀ v : UInt64, ResD μ a (0, v) Q → ∀ e, e = rs_sD σ 321 (0 : Int32).toNatClampNeg v → Q 0 e := fun v hk e he => by
    rw [t0] at he
    refine hk e (h.hi (A := fun u => u = 321) (by rw [he]; exact Fr.sD (A := fun u => u = 321) Fr.rf rfl) (fun u q => by omega) (by rw [he]; exact h.1)) (fun _ => by rw [he]; exact D_same)
  have v321 : vp_in (0 : Int32) (NF 321) := by rw [nf_321]; exact vpl rfl
  unfold F_La_penalty F_Sp_penalty
  refine P_peerNo (fun hx => w_f (by decide) (P_Sp_isPrefix (fun hy => v_f (by decide) ?_) (fun hy => v_t rfl (bad (fun n => hy n.2))))) (fun hx => w_t rfl (bad (fun n => hx n.1)))
  unfold opPen at kk
  rw [if_neg (fun n => n ⟨hx, hy⟩)] at kk
  obtain ⟨p, hp, rfl⟩ := okP_of hx
  rw [tN_nI (by omega)] at kk
  rw [gr_1_1 h.1, nf_6, gr_1_0 h.1, nIc (by omega), gr_6 h.1 hp, gp_0_15 h.1 hp]
  refine ⟨vpn hp (by omega), P_Px_find h.1 h.2.1 (fun hm => ?_) (fun hm => ?_)⟩
  · rw [if_neg (fun n => n hm)] at kk
    have hk := mem_lt hm
    have hk12 := h.kl hk
    exact P_In_penaltyAt h.1 hp hk12 ((h.2.2.2 p hp).2.2.2.2.1 _ hk12) ⟨v321, fun e he => fin _ kk e he⟩
  · rw [if_pos hm] at kk
    exact P_In_penaltyN ⟨v321, fun e he => fin _ kk e he⟩
theorem C_fwd {x : Int32} (h : CR μ σ a) (kk : ResA μ a (opFwd a x) Q) : F_La_forward NF 1 x 320 σ Q := by
  have bad : ¬ (0 ≤ x ∧ x ≤ 255) → ((1 : Nat) = 1 ∧ Q 1 σ) ∨ ((1 : Nat) = 3 ∧ Q 2 σ) := fun hc => by
    unfold opFwd at kk
    rw [if_pos hc] at kk
    exact Or.inl ⟨rfl, kk σ h (fun z => (n10 z).elim)⟩
  unfold F_La_forward F_Sp_forward
  refine ⟨fun hx => bad (fun n => by have := n.1; grind), fun hx => ⟨fun hx2 => ?_, fun hx2 => bad (fun n => hx2 n.2)⟩⟩
  unfold opFwd at kk
  rw [if_neg (fun n => n ⟨by grind, hx2⟩)] at kk
  have hl := h.2.1.2.1
  have key : ∀ d k τ, k + d = (aPre a).length → CR μ τ a → L_Sp_forward_26 NF (fun x54 σ51 => (vp_in (0 : Int32) (NF 320) ∧ ∀ σ56 : rs_Mem, σ56 = rs_sL σ51 320 (0 : Int32).toNatClampNeg (x54.toInt64) → (Q (0 : Int32) σ56))) (fun k53 σ51 => ((k53 = 1 ∧ (Q (1 : Int32) σ51)) ∨ (k53 = 3 ∧ (Q (2 : Int32) σ51)))) (d + 1) 1 x (fwd a x k).1 (fwd a x k).2 (nI k) τ := by
    intro d
    induction d with
    | zero =>
      intro k τ hk hc
      have e : k = (aPre a).length := by omega
      subst e
      refine w_t (by rw [gr_1_0 hc.1, hc.2.1.1]; exact (nIle (by omega) (by omega)).mpr (by omega)) ⟨fun hf => ⟨vp320, fun e he => ?_⟩, fun hf => Or.inr ⟨rfl, ?_⟩⟩
      · rw [if_neg hf] at kk
        exact out0 (r := (0, _, a)) hc rfl rfl kk he
      · rw [if_pos hf] at kk
        exact kk τ hc (fun z => (n20 z).elim)
    | succ d ih =>
      intro k τ hk hc
      have hkl : k < (aPre a).length := by omega
      have hk12 := hc.kl hkl
      refine w_f (fun h => by rw [gr_1_0 hc.1, hc.2.1.1] at h; have := (nIle (by omega) (by omega)).mp h; omega) ?_
      rw [gr_1_0 hc.1, gr_2_0 hc.1, gr_2_1 hc.1, nf_3, nf_4, nIc (by omega), (hc.prx_at hkl).1, (hc.prx_at hkl).2]
      have skip : ¬ ((fwd a x k).1 < (prx a k).1 ∧ isWi 8 x (prx a k).1 (prx a k).2 ∧ bestO a k ≠ none) → fwd a x (k + 1) = fwd a x k := fun hn => if_neg hn
      have take : ((fwd a x k).1 < (prx a k).1 ∧ isWi 8 x (prx a k).1 (prx a k).2 ∧ bestO a k ≠ none) → fwd a x (k + 1) = ((prx a k).1, oI (bestO a k)) := fun hn => if_pos hn
      refine ⟨vpn hk12 (by omega), fun y ey => ?_⟩
      subst ey
      refine ⟨fun hle z ez => ?_, fun hle => ⟨vpn hk12 (by omega), P_Sp_isWithin (fun hw => w_f (by decide) (P_Sp_chooseFor hc hkl (fun ρ c1 c2 => ?_))) (fun hw => w_t rfl (fun z ez => ?_))⟩⟩
      · subst ez
        rw [nI_1]
        have := ih (k + 1) τ (by omega) hc
        rw [skip (fun n => by have := n.1; grind)] at this
        exact this
      · have hb5 : ∀ w, bestO a k = some w → w < 5 := fun w hb => (bestO_some hb).1
        refine ⟨fun hb z ez => ?_, fun hb z ez => ?_⟩
        · subst ez
          rw [nI_1]
          have hbn : bestO a k = none := by
            cases hbo : bestO a k with
            | none => rfl
            | some w => rw [hbo] at hb; exact absurd hb (nIm1 (by have := hb5 w hbo; omega))
          have := ih (k + 1) ρ (by omega) c1
          rw [skip (fun n => n.2.2 hbn)] at this
          exact this
        · subst ez
          rw [nI_1]
          have := ih (k + 1) ρ (by omega) c1
          rw [take ⟨by grind, hw, fun n => hb (by rw [n]; rfl)⟩] at this
          exact this
      · subst ez
        rw [nI_1]
        have := ih (k + 1) τ (by omega) hc
        rw [skip (fun n => hw n.2.1)] at this
        exact this
  exact ⟨_, key (aPre a).length 0 σ (by omega) h⟩
end CC
