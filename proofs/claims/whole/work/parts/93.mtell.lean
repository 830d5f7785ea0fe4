/-! the model tells -/
def TkP (p k : Nat) : Nat → Nat → Prop := fun u j => MkP u j ∨ (u = 315 ∧ j = 12 * p + k) ∨ (u = 316 ∧ 40 * (12 * p + k) ≤ j ∧ j < 40 * (12 * p + k) + 40)
theorem tk_in {p k u j : Nat} (hk : k < 12) (z : TkP p k u j) : InP p u j ∨ ScP u j := by
  unfold TkP at z
  rcases z with z | z | z
  · right; unfold MkP at z; unfold ScP; omega
  · left; unfold InP; omega
  · left; unfold InP; omega
theorem sd_in {p u j : Nat} (z : SdP p u j) : InP p u j ∨ ScP u j := by
  unfold SdP at z
  rcases z with z | z | z | z
  · right; unfold MkP at z; unfold ScP; omega
  · left; unfold ClP at z; unfold InP; omega
  · left; unfold InP; omega
  · left; unfold InP; omega
theorem fit_tol {s : Ps} {f : Nat → Option (List Int32)} {m : List Int32} : decide (fitS (sTol s f) m) = decide (fitS s m) := by
  unfold fitS; rw [gt_Out]
section MT
variable {μ σ τ : rs_Mem} {a : Ab} {k p : Nat} {s : Ps}
def MT1 (σ : rs_Mem) (p k : Nat) (o : Option (List Int32)) : Prop := (o = none → rs_I σ 315 (12 * p + k) = -1) ∧ ∀ t, o = some t → rs_I σ 315 (12 * p + k) = nI t.length ∧ Ar σ 316 (40 * (12 * p + k)) t ∧ t.length ≤ 33
theorem P_Mo_isTold {o d : Option (List Int32)} {Q : Int32 → rs_Mem → Prop} (hG : Gr σ) (hp : p < 4) (hk : k < 12) (hT : MT1 σ p k o) (hW : WT σ d) (hd : ∀ t, d = some t → t.length ≤ 33) (h1 : o = d → Q 1 σ) (h0 : o ≠ d → Q 0 σ) : F_Mo_isTold NF 281 (nI (12 * p + k)) (dI d) σ Q := by
  have e40 : (40 : Int32) = nI 40 := by decide
  have v48 : vp_in (nI (12 * p + k)) 48 := vpn (by omega) (by omega)
  unfold F_Mo_isTold
  rw [gr_281_36 hG, nf_315, nIc (by omega)]
  refine ⟨v48, fun hne => ?_, fun he => ?_⟩
  · have hn : o ≠ d := fun e => by
      subst e
      cases o with
      | none => exact hne (hT.1 rfl)
      | some t => exact hne (hT.2 t rfl).1
    exact ⟨1, ⟨fun _ => ⟨by decide, h0 hn⟩, fun _ => w_t rfl ⟨by decide, h0 hn⟩⟩⟩
  · cases d with
    | none =>
      have ho : o = none := by
        cases o with
        | none => rfl
        | some t =>
          have := (hT.2 t rfl).1
          rw [he] at this
          have hl := (hT.2 t rfl).2.2
          exact absurd this.symm (nIm1 (by omega))
      exact ⟨1, w_t (by decide) ⟨by decide, h1 ho⟩⟩
    | some t =>
      have hl := hd t rfl
      have hWt := hW t rfl
      cases o with
      | none =>
        have := hT.1 rfl
        rw [he] at this
        exact absurd this (nIm1 (by omega))
      | some t' =>
        obtain ⟨q1, q2, q3⟩ := hT.2 t' rfl
        have hlen : t'.length = t.length := by
          rw [q1] at he
          exact (nIeq (by omega) (by omega)).mp he
        have ends : ∀ (i : Nat) (b : Bool), (b = true ↔ t' = t) → (b2i b &&& 1 = b2i b) ∧ Q (b2i b) σ := fun i b hb => ⟨by cases b <;> decide, by
          cases b with
          | true => exact h1 (by rw [hb.mp rfl])
          | false => exact h0 (fun e => by have := hb.mpr (Option.some.inj e); cases this)⟩
        have key : ∀ dd i (b : Bool), i + dd = t.length → (b = true → t'.take i = t.take i) → (b = false → t' ≠ t) → L_Mo_isTold_19 NF Q (dd + 1) 281 (nI (12 * p + k)) (nI t.length) (b2i b) (nI i) σ := by
          intro dd
          induction dd with
          | zero =>
            intro i b hi hb hb0
            have e : i = t.length := by omega
            subst e
            refine w_t ((nIle (by omega) (by omega)).mpr (by omega)) (ends 0 b ⟨fun z => ?_, fun z => ?_⟩)
            · have := hb z
              rw [List.take_length, ← hlen, List.take_length] at this
              exact this
            · cases b with
              | true => rfl
              | false => exact absurd z (hb0 rfl)
          | succ dd ih =>
            intro i b hi hb hb0
            refine w_f (fun h => by have := (nIle (by omega) (by omega)).mp h; omega) ?_
            cases b with
            | false => exact w_t rfl (ends 0 false ⟨(fun z => by cases z), fun z => absurd z (hb0 rfl)⟩)
            | true =>
              refine w_f (by decide) ?_
              rw [gr_281_37 hG, nf_316, gr_281_38 hG, nf_317, e40, nI_mul, nI_add, nIc (n := 40 * (12 * p + k) + i) (by omega), nIc (n := i) (by omega), q2 i (by omega), hWt.get0 (by omega)]
              refine ⟨vpn (by omega) (by omega), vpn (by omega) (by omega), fun hne x ex => ?_, fun heq x ex => ?_⟩
              · subst ex
                rw [nI_1]
                exact ih (i + 1) false (by omega) (fun z => by cases z) (fun _ z => hne (by subst z; rfl))
              · subst ex
                rw [nI_1]
                refine ih (i + 1) true (by omega) (fun _ => ?_) (fun z => by cases z)
                rw [List.take_succ_eq_append_getElem (by omega), List.take_succ_eq_append_getElem (by omega), hb rfl, heq]
        exact ⟨_, key t.length 0 true (by omega) (fun _ => by simp) (fun z => by cases z)⟩
theorem MPe.sTo {o : Option (List Int32)} (h : MPe σ p s) (hk : k < 12) (f : Fp (TkP p k) σ τ) (g : MT1 τ p k o) : MPe τ p (sTol s (upO (pTol s) k o)) := by
  obtain ⟨⟨a1, a2, a3, a4, a5, a6, a7, a8, a9, a10⟩, ⟨b1, b2, b3⟩, ⟨c1, c2, c3⟩, ⟨d1, d2, d3⟩, e, t⟩ := h
  have n : ∀ u j, 282 ≤ u → u ≠ 300 → u ≠ 315 → u ≠ 316 → rs_I τ u j = rs_I σ u j := fun u j q1 q2 q3 q4 => f.I (by unfold TkP MkP; omega)
  refine ⟨⟨?_, ?_, ?_, ?_, ?_, ?_, ?_, ?_, ?_, ?_⟩, ?_, ?_, ?_, fun j hj => ?_, fun j hj => ?_⟩
  · rw [gt_Role]; exact (n _ _ (by omega) (by omega) (by omega) (by omega)).trans a1
  · rw [gt_Net]; exact (n _ _ (by omega) (by omega) (by omega) (by omega)).trans a2
  · rw [gt_St]; exact (n _ _ (by omega) (by omega) (by omega) (by omega)).trans a3
  · rw [gt_Ht]; exact (n _ _ (by omega) (by omega) (by omega) (by omega)).trans a4
  · rw [gt_Kt]; exact (n _ _ (by omega) (by omega) (by omega) (by omega)).trans a5
  · rw [gt_Ho]; exact (n _ _ (by omega) (by omega) (by omega) (by omega)).trans a6
  · rw [gt_Id]; exact (n _ _ (by omega) (by omega) (by omega) (by omega)).trans a7
  · rw [gt_Pad]; exact (n _ _ (by omega) (by omega) (by omega) (by omega)).trans a8
  · rw [gt_Ml]; exact (n _ _ (by omega) (by omega) (by omega) (by omega)).trans a9
  · rw [gt_Ma]; exact (n _ _ (by omega) (by omega) (by omega) (by omega)).trans a10
  · rw [gt_Rul]
    exact ⟨(n _ _ (by omega) (by omega) (by omega) (by omega)).trans b1, b2, fun k hk => ⟨(n _ _ (by omega) (by omega) (by omega) (by omega)).trans (b3 k hk).1, (n _ _ (by omega) (by omega) (by omega) (by omega)).trans (b3 k hk).2.1, (n _ _ (by omega) (by omega) (by omega) (by omega)).trans (b3 k hk).2.2⟩⟩
  · rw [gt_Inb]
    exact ⟨(n _ _ (by omega) (by omega) (by omega) (by omega)).trans c1, c2, fun k hk => (n _ _ (by omega) (by omega) (by omega) (by omega)).trans (c3 k hk)⟩
  · rw [gt_Out]
    exact ⟨(n _ _ (by omega) (by omega) (by omega) (by omega)).trans d1, d2, fun k hk => (n _ _ (by omega) (by omega) (by omega) (by omega)).trans (d3 k hk)⟩
  · rw [gt_Inc, gt_Pen, gt_Dmp, gt_Role]
    obtain ⟨x, y, z, w⟩ := e j hj
    exact ⟨(n _ _ (by omega) (by omega) (by omega) (by omega)).trans x, fun rt q => (y rt q).fp f (fun u q => by unfold TkP MkP; omega) (fun j q1 q2 => by unfold TkP MkP; omega) (fun j q1 q2 => by unfold TkP MkP; omega), (f.D (by unfold TkP MkP; omega)).trans z, (n _ _ (by omega) (by omega) (by omega) (by omega)).trans w⟩
  · rw [gt_Tol]
    by_cases ej : j = k
    · subst ej; rw [upO_same]; exact g
    · rw [upO_ne ej]
      obtain ⟨x, y⟩ := t j hj
      refine ⟨fun q => (f.I (by unfold TkP MkP; omega)).trans (x q), fun t q => ?_⟩
      obtain ⟨y1, y2, y3⟩ := y t q
      exact ⟨(f.I (by unfold TkP MkP; omega)).trans y1, fun i hi => (f.I (by unfold TkP MkP; omega)).trans (y2 i hi), y3⟩
theorem MK.fp {P : Nat → Nat → Prop} {l : List Int32} (h : MK σ l) (f : Fp P σ τ) (h0 : ¬ P 281 20) (h1 : ∀ j, ¬ P 300 j) : MK τ l := ⟨(f.I h0).trans h.1, h.2.1, fun k hk hn => (f.I (h1 _)).trans (h.2.2 k hk hn)⟩
theorem P_Mo_tellOne {Q : Int32 → rs_Mem → Prop} (h : MR μ σ a) (hA : AW a) (hp : p < 4) (hk : k < (aPre a).length) (hup : pSt (aPe a p) = 3) (kk : ∀ τ, MR μ τ (tell1 a p k).1 → Q (b2i (tell1 a p k).2) τ) : F_Mo_tellOne NF 281 (nI p) (nI k) σ Q := by
  have hk12 : k < 12 := by have := h.2.1.2.1; omega
  have e12 : (12 : Int32) = nI 12 := by decide
  have e40 : (40 : Int32) = nI 40 := by decide
  intro x ex
  rw [e12, nI_mul, nI_add] at ex
  subst ex
  refine P_Mo_due h hA hp hk hup (fun τ g1 g2 g3 g4 => ?_)
  have hT : MT1 τ p k (pTol (aPe a p) k) := (g1.2.2.2 p hp).2.2.2.2.2 k hk12
  unfold tell1 at kk
  refine P_Mo_isTold g1.1 hp hk12 hT g3 g4 (fun e => w_f (by decide) ?_) (fun e => w_t rfl ?_)
  · rw [if_pos e] at kk
    exact kk τ g1
  rw [if_neg e] at kk
  -- the last step: told, sent
  have fin : ∀ ρ x l, nI (l.length + 1) :: l = msgT (prx a k) (dueA a p k) → MK ρ (x :: l) → Fp (TkP p k) τ ρ → Gr ρ → (∀ t, dueA a p k = some t → Ar ρ 316 (40 * (12 * p + k)) t) → B_Mo_tellOne_157 NF Q 281 (nI p) (nI (12 * p + k)) (dI (dueA a p k)) ρ := fun ρ x l hl hK f hG hat => by
    unfold B_Mo_tellOne_157
    rw [gr_281_36 hG, nf_315, nIc (by omega)]
    refine ⟨vpn (by omega) (by omega), fun σ1 e1 => ?_⟩
    have f1 : Fp (TkP p k) τ σ1 := by rw [e1]; exact f.sI (Or.inr (Or.inl ⟨rfl, rfl⟩))
    have fl : Fp (fun u j => u = 315 ∧ j = 12 * p + k) ρ σ1 := by rw [e1]; exact Fp.rf.sI ⟨rfl, rfl⟩
    have hG1 : Gr σ1 := e1 ▸ hG
    have hT1 : MT1 σ1 p k (dueA a p k) := by
      refine ⟨fun z => ?_, fun t z => ⟨?_, fun j hj => ?_, g4 t z⟩⟩
      · rw [e1, z]; exact I_same
      · rw [e1, z]; exact I_same
      · exact (fl.I (by omega)).trans (hat t z j hj)
    have hs := (g1.2.2.2 p hp).sTo hk12 f1 hT1
    refine P_Mo_send hG1 hp hs (hK.fp fl (by omega) (fun j => by omega)) (fun π t1 t2 t3 => ⟨?_, ?_⟩)
    · unfold b2i; split <;> decide
    · rw [hl] at t1 ⊢
      rw [fit_tol]
      exact kk π (g1.pe ((f1.mono fun u j z => tk_in hk12 z).tr (t2.mono fun u j z => sd_in z)) t3 t1 hp)
  refine P_Mo_begin g1.1 (fun τ1 b1 b2 b3 => ?_)
  have pref : ∀ ρ, Fp (TkP p k) τ ρ → rs_I ρ 301 k = (prx a k).1 ∧ rs_I ρ 302 k = (prx a k).2 := fun ρ f => ⟨(f.I (by unfold TkP MkP; omega)).trans (g1.prx_at hk).1, (f.I (by unfold TkP MkP; omega)).trans (g1.prx_at hk).2⟩
  have mk : ∀ {ρ π : rs_Mem}, Fp MkP ρ π → Fp (TkP p k) ρ π := fun f => f.mono fun u j z => Or.inl z
  have v12 : vp_in (nI k) 12 := vpn hk12 (by omega)
  cases hd : dueA a p k with
  | none =>
    rw [hd] at fin
    refine w_f (c := (0 : Int32) ≤ -1) (by decide) (?_ : B_Mo_tellOne_43 NF Q 281 (nI p) (nI k) (nI (12 * p + k)) (-1) 281 1 τ1)
    unfold B_Mo_tellOne_43
    refine P_Mo_add b3 b1 (by simp) (fun τ2 c1 c2 c3 => w_f (by decide) ?_)
    have f2 := (mk b2).tr (mk c2)
    rw [gr_281_22 c3, nf_301, nIc (by omega), (pref τ2 f2).1]
    refine ⟨v12, P_Mo_add c3 c1 (by simp) (fun τ3 d1 d2 d3 => ?_)⟩
    have f3 := f2.tr (mk d2)
    rw [gr_281_23 d3, nf_302, (pref τ3 f3).2]
    refine ⟨v12, P_Mo_add d3 d1 (by simp) (fun τ4 i1 i2 i3 => ?_)⟩
    have f4 := f3.tr (mk i2)
    unfold B_Mo_tellOne_71
    refine w_f (by decide) (?_ : B_Mo_tellOne_83 NF Q 281 (nI p) (nI k) (nI (12 * p + k)) (-1) 281 0 τ4)
    unfold B_Mo_tellOne_83
    refine P_Mo_add i3 i1 (by simp) (fun τ5 j1 j2 j3 => ⟨1, w_t (by decide) (w_t (by decide) ?_)⟩)
    exact fin τ5 0 [2, 1, (prx a k).1, (prx a k).2, 0] rfl (by simpa using j1) (f4.tr (mk j2)) j3 (fun t z => by cases z)
  | some t =>
    rw [hd] at fin
    have hl := g4 t hd
    have hWt := g3 t hd
    have hdi : dI (some t) = nI t.length := rfl
    have h0t : (0 : Int32) ≤ nI t.length := by
      rw [show (0 : Int32) = nI 0 by decide, nIle (by omega) (by omega)]; omega
    have hnt : ¬ nI t.length < 0 := nI_pos (by omega)
    rw [hdi] at fin ⊢
    refine w_t h0t (?_ : B_Mo_tellOne_43 NF Q 281 (nI p) (nI k) (nI (12 * p + k)) (nI t.length) 281 0 τ1)
    unfold B_Mo_tellOne_43
    refine P_Mo_add b3 b1 (by simp) (fun τ2 c1 c2 c3 => w_t h0t ?_)
    have f2 := (mk b2).tr (mk c2)
    unfold B_Mo_tellOne_71
    refine w_t h0t (?_ : B_Mo_tellOne_83 NF Q 281 (nI p) (nI k) (nI (12 * p + k)) (nI t.length) 281 (nI t.length) τ2)
    unfold B_Mo_tellOne_83
    refine P_Mo_add c3 c1 (by simp) (fun τ3 d1 d2 d3 => ?_)
    have f3 := f2.tr (mk d2)
    have d1' : MK τ3 ([0, 2, 0, nI t.length] ++ t.take 0) := by simpa using d1
    have key : ∀ d i ρ, i + d = t.length → MK ρ ([0, 2, 0, nI t.length] ++ t.take i) → (∀ j (hj : j < t.length), j < i → rs_I ρ 316 (40 * (12 * p + k) + j) = t[j]) → Fp (TkP p k) τ ρ → Gr ρ → L_Mo_tellOne_89 NF Q (d + 1) 281 (nI p) (nI k) (nI (12 * p + k)) (nI t.length) (nI i) ρ := by
      intro d
      induction d with
      | zero =>
        intro i ρ hi r1 r2 r3 r4
        have e : i = t.length := by omega
        subst e
        rw [List.take_length] at r1
        refine w_t ((nIle (by omega) (by omega)).mpr (by omega)) (w_f hnt ?_)
        rw [gr_281_22 r4, nf_301, nIc (n := k) (by omega), (pref ρ r3).1]
        refine ⟨v12, P_Mo_add r4 r1 (by simp; omega) (fun ρ2 s1 s2 s3 => ?_)⟩
        have f5 := r3.tr (mk s2)
        rw [gr_281_23 s3, nf_302, (pref ρ2 f5).2]
        refine ⟨v12, P_Mo_add s3 s1 (by simp; omega) (fun ρ3 u1 u2 u3 => ?_)⟩
        refine fin ρ3 0 (2 :: 0 :: nI t.length :: (t ++ [(prx a k).1, (prx a k).2])) ?_ (by simpa using u1) (f5.tr (mk u2)) u3 (fun t' z j hj => ?_)
        · show _ = msgA t (prx a k)
          unfold msgA
          simp
        · cases z
          have f6 := s2.tr u2
          rw [f6.I (by unfold MkP; omega)]
          exact r2 j hj hj
      | succ d ih =>
        intro i ρ hi r1 r2 r3 r4
        have htk : t.take (i + 1) = t.take i ++ [t[i]'(by omega)] := List.take_succ_eq_append_getElem (by omega)
        have wn : ∀ π, Fp (TkP p k) τ π → rs_I π 317 i = t[i]'(by omega) := fun π f => (f.I (by unfold TkP MkP; omega)).trans (hWt.get0 (by omega))
        refine w_f (fun h => by have := (nIle (by omega) (by omega)).mp h; omega) ?_
        rw [gr_281_38 r4, nf_317, nIc (n := i) (by omega), wn ρ r3]
        refine ⟨vpn (by omega) (by omega), P_Mo_add r4 r1 (by simp; omega) (fun ρ2 s1 s2 s3 => ?_)⟩
        have f5 := r3.tr (mk s2)
        rw [gr_281_38 s3, nf_317, gr_281_37 s3, nf_316, e40, nI_mul, nI_add, nIc (n := 40 * (12 * p + k) + i) (by omega), wn ρ2 f5]
        refine ⟨vpn (by omega) (by omega), vpn (by omega) (by omega), fun σ5 e5 y ey => ?_⟩
        subst ey
        rw [nI_1]
        have fl : Fp (fun u j => u = 316 ∧ j = 40 * (12 * p + k) + i) ρ2 σ5 := by rw [e5]; exact Fp.rf.sI ⟨rfl, rfl⟩
        refine ih (i + 1) σ5 (by omega) ?_ (fun j hj hji => ?_) (f5.tr (fl.mono fun u j z => Or.inr (Or.inr (by omega)))) (e5 ▸ s3)
        · rw [htk, ← List.append_assoc]
          exact s1.fp fl (by omega) (fun j => by omega)
        · by_cases ej : j = i
          · subst ej; rw [e5]; exact I_same
          · rw [e5, I_nk (by omega), s2.I (by unfold MkP; omega)]; exact r2 j hj (by omega)
    exact ⟨_, key t.length 0 τ3 (by omega) d1' (fun j _ hj => by omega) f3 d3⟩
theorem AW_tell1 (hA : AW a) (hp : p < 4) : AW (tell1 a p k).1 := by
  unfold tell1
  split
  · exact hA
  · generalize msgT (prx a k) (dueA a p k) = m
    generalize upO (pTol (aPe a p)) k (dueA a p k) = f
    have cf : cfS (aPe a p) (sendS (sTol (aPe a p) f) m) := cf_tol.tr cf_send
    have inc : ∀ j rt, pInc (sendS (sTol (aPe a p) f) m) j = some rt → pInc (aPe a p) j = some rt := fun j rt hj => by
      unfold sendS at hj
      split at hj
      · rw [go_Inc, gt_Inc] at hj; exact hj
      · rw [cl_Inc] at hj; cases hj
    have hid : pId (sendS (sTol (aPe a p) f) m) ≠ -1 := by
      unfold sendS
      split
      · rw [go_Id, gt_Id]; exact (hA.2 p hp).2.2.1
      · rw [cl_Id]; decide
    generalize sendS (sTol (aPe a p) f) m = s at cf inc hid
    obtain ⟨c1, c2, c3, c4, c5, c6, c7, c8⟩ := cf
    refine ⟨⟨hA.1.1, fun q hq => ?_⟩, fun q hq => ?_⟩
    · by_cases e : q = p
      · subst e
        show wfR (pRul (aPe (stPe a q s) q)) ∧ _
        rw [stPe_at, c6]
        refine ⟨(hA.1.2 q hq).1, fun j rt hj => ?_⟩
        have := (hA.1.2 q hq).2 j rt (inc j rt hj)
        unfold wfRt at this ⊢
        rw [c1]; exact this
      · show wfR (pRul (aPe (stPe a p s) q)) ∧ _
        rw [stPe_ne e]
        exact hA.1.2 q hq
    · by_cases e : q = p
      · subst e
        show okM (aPe (stPe a q s) q)
        rw [stPe_at]
        unfold okM
        rw [c2, c3, c4, c5]
        exact ⟨(hA.2 q hq).1, (hA.2 q hq).2.1, hid, (hA.2 q hq).2.2.2⟩
      · show okM (aPe (stPe a p s) q)
        rw [stPe_ne e]; exact hA.2 q hq
theorem upN_le : ∀ k, upN a k ≤ k
  | 0 => Nat.le_refl 0
  | k + 1 => by
    have := upN_le k
    unfold upN; split <;> omega
theorem upN_congr {b : Ab} (h : ∀ q, q < 4 → (pSt (aPe b q) = 3 ↔ pSt (aPe a q) = 3)) : ∀ k, k ≤ 4 → upN b k = upN a k
  | 0, _ => rfl
  | k + 1, hk => by
    have := upN_congr h k (by omega)
    unfold upN
    rw [this]
    have := h k (by omega)
    by_cases e : pSt (aPe a k) = 3
    · rw [if_pos e, if_pos (this.mpr e)]
    · rw [if_neg e, if_neg (fun z => e (this.mp z))]
theorem upN_dn {b : Ab} (hp : p < 4) (h3 : pSt (aPe a p) = 3) (h0 : pSt (aPe b p) ≠ 3) (h : ∀ q, q ≠ p → aPe b q = aPe a q) : ∀ k, k ≤ 4 → p < k → upN b k + 1 = upN a k
  | 0, _, hpk => by omega
  | k + 1, hk, hpk => by
    unfold upN
    by_cases e : k = p
    · subst e
      rw [if_neg h0, if_pos h3]
      have key : ∀ j, j ≤ k → upN b j = upN a j := fun j => by
        induction j with
        | zero => intro _; rfl
        | succ j ih =>
          intro hj
          unfold upN
          rw [ih (by omega), h j (by omega)]
      rw [key k (Nat.le_refl k)]
    · have := upN_dn hp h3 h0 h k (by omega) (by omega)
      rw [h k e]
      omega
theorem tell1_up (hp : p < 4) (h3 : pSt (aPe a p) = 3) : ((tell1 a p k).2 = true → upN (tell1 a p k).1 4 = upN a 4) ∧ ((tell1 a p k).2 = false → upN (tell1 a p k).1 4 + 1 = upN a 4) := by
  unfold tell1
  split
  · exact ⟨fun _ => rfl, fun z => by cases z⟩
  · generalize msgT (prx a k) (dueA a p k) = m
    generalize upO (pTol (aPe a p)) k (dueA a p k) = f
    refine ⟨fun z => upN_congr (fun q hq => ?_) 4 (Nat.le_refl 4), fun z => upN_dn hp h3 ?_ (fun q hq => stPe_ne hq) 4 (Nat.le_refl 4) hp⟩
    · have hf : fitS (aPe a p) m := of_decide_eq_true z
      by_cases e : q = p
      · subst e
        show pSt (aPe (stPe a q _) q) = 3 ↔ _
        rw [stPe_at]
        unfold sendS
        rw [gt_Out, if_pos hf, go_St, gt_St]
      · show pSt (aPe (stPe a p _) q) = 3 ↔ _
        rw [stPe_ne e]
    · have hf : ¬ fitS (aPe a p) m := of_decide_eq_false z
      show pSt (aPe (stPe a p _) p) ≠ 3
      rw [stPe_at]
      unfold sendS
      rw [gt_Out, if_neg hf, cl_St]
      decide
theorem tAt_up {j : Nat} : ((tAt a j).2 = true → upN (tAt a j).1 4 = upN a 4) ∧ ((tAt a j).2 = false → upN (tAt a j).1 4 + 1 = upN a 4) := by
  unfold tAt
  split
  · rename_i h; exact tell1_up (Nat.mod_lt _ (by omega)) h
  · exact ⟨fun _ => rfl, fun z => by cases z⟩
theorem AW_tAt {j : Nat} (hA : AW a) : AW (tAt a j).1 := by
  unfold tAt
  split
  · exact AW_tell1 hA (Nat.mod_lt _ (by omega))
  · exact hA
def tG (m d j : Nat) (b : Ab) : Ab := if (rnd d j b).2 then (rnd d j b).1 else tAll m (rnd d j b).1
theorem tG_step {m d j : Nat} {b : Ab} : tG m (d + 1) j b = if (tAt b j).2 then tG m d (j + 1) (tAt b j).1 else tAll m (tAt b j).1 := by
  unfold tG
  show (if (if (tAt b j).2 then rnd d (j + 1) (tAt b j).1 else ((tAt b j).1, false)).2 then _ else _) = _
  have e : rnd (d + 1) j b = if (tAt b j).2 then rnd d (j + 1) (tAt b j).1 else ((tAt b j).1, false) := rfl
  rw [e]
  cases (tAt b j).2 with
  | true => rfl
  | false => rfl
theorem P_Mo_tell {Q : rs_Mem → Prop} (h : MR μ σ a) (hA : AW a) (kk : ∀ τ, MR μ τ (tAll 5 a) → Q τ) : F_Mo_tell NF 281 σ Q := by
  have e4 : (4 : Int32) = nI 4 := by decide
  generalize hR : tAll 5 a = R at kk
  have key : ∀ f j d m τ b, j + d = 4 * (aPre a).length → d + 49 * m + 1 ≤ f → MR μ τ b → AW b → aPre b = aPre a → upN b 4 ≤ m → tG m d j b = R → L_Mo_tell_2 NF Q f 281 (nI j) τ := by
    intro f
    induction f with
    | zero => intro j d m τ b _ hf; omega
    | succ f ih =>
      intro j d m τ b hj hf g1 g2 g3 g4 g5
      have hl : (aPre b).length ≤ 12 := g1.2.1.2.1
      rw [g3] at hl
      cases d with
      | zero =>
        have e : R = b := by rw [← g5]; rfl
        subst e
        refine w_t ?_ (kk τ g1)
        rw [e4, g1.2.1.1, g3, nI_mul, nIle (by omega) (by omega)]; omega
      | succ d =>
        refine w_f (fun z => by rw [e4, g1.2.1.1, g3, nI_mul, nIle (by omega) (by omega)] at z; omega) ?_
        have hm : nI j - nI j / 4 * 4 = nI (j % 4) := (by decide +kernel : ∀ j, j < 48 → nI j - nI j / 4 * 4 = nI (j % 4)) j (by omega)
        have hdv : nI j / 4 = nI (j / 4) := (by decide +kernel : ∀ j, j < 48 → nI j / 4 = nI (j / 4)) j (by omega)
        have hp : j % 4 < 4 := Nat.mod_lt _ (by omega)
        have next : ∀ τ2 b2, MR μ τ2 b2 → tAt b j = (b2, true) → B_Mo_tell_51 NF (L_Mo_tell_2 NF Q f) Q 281 (nI j) τ2 := fun τ2 b2 r1 r2 x ex => by
          subst ex
          rw [nI_1]
          rw [tG_step, r2] at g5
          have hb2 : (tAt b j).1 = b2 := by rw [r2]
          have ha : AW b2 := by rw [← hb2]; exact AW_tAt g2
          have hpr : aPre b2 = aPre b := by rw [← hb2]; exact cfA_tAt.1
          have hu : upN b2 4 = upN b 4 := by rw [← hb2]; exact tAt_up.1 (by rw [r2])
          exact ih (j + 1) d m τ2 b2 (by omega) (by omega) r1 ha (hpr.trans g3) (by omega) g5
        rw [hm, gr_281_3 g1.1, nf_284, nIc (by omega), (g1.2.2.2 _ hp).1.2.2.1]
        refine ⟨vpn hp (by omega), fun hz => ?_, fun hz => ?_⟩
        · unfold B_Mo_tell_29
          refine w_t rfl (next τ b g1 ?_)
          unfold tAt; rw [if_neg hz]
        · unfold B_Mo_tell_29
          refine w_f (by decide) ?_
          rw [hm, hdv]
          have hk : j / 4 < (aPre b).length := by rw [g3]; omega
          have ht : tAt b j = tell1 b (j % 4) (j / 4) := by unfold tAt; rw [if_pos hz]
          refine P_Mo_tellOne g1 g2 hp hk hz (fun τ2 r1 => ?_)
          cases hb : (tell1 b (j % 4) (j / 4)).2 with
          | true => exact v_f (by decide) (next τ2 _ r1 (by rw [ht, ← hb]))
          | false =>
            refine v_t rfl ?_
            rw [tG_step, ht, hb] at g5
            have hu := tAt_up.2 (show (tAt b j).2 = false by rw [ht]; exact hb)
            rw [ht] at hu
            obtain ⟨m', rfl⟩ : ∃ m', m = m' + 1 := ⟨m - 1, by omega⟩
            have hpr : aPre (tell1 b (j % 4) (j / 4)).1 = aPre b := cfA_tell1.1
            have g5 : tAll (m' + 1) (tell1 b (j % 4) (j / 4)).1 = R := g5
            have e0 : (0 : Int32) = nI 0 := by decide
            rw [e0]
            refine ih 0 (4 * (aPre a).length) m' τ2 _ (Nat.zero_add _) (by omega) r1 (AW_tell1 g2 hp) (hpr.trans g3) (by omega) ?_
            rw [← g5, ← g3, ← hpr]
            rfl
  exact ⟨4 * (aPre a).length + 49 * 4 + 1, key _ 0 _ 4 σ a (Nat.zero_add _) (Nat.le_refl _) h hA rfl (upN_le 4) hR⟩
end MT
