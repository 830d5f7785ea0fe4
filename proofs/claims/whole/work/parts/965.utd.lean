/-! everything told is up to date behind a telling -/
section UT
variable {a b : Ab} {s t : Ps} {p k j : Nat}
theorem due_len {t : List Int32} (h : AI0 a) (hd : dueA a p k = some t) : t.length ≤ 33 := by
  unfold dueA at hd
  cases hb : bestO a k with
  | none => rw [hb] at hd; cases hd
  | some w =>
    rw [hb] at hd
    simp only at hd
    obtain ⟨hw, hC⟩ := bestO_some hb
    have hr : okRt (rtW a w k) := by
      by_cases e : w = 4
      · unfold rtW; rw [if_pos e]; exact okRt_own
      · exact ((h.2.2 w (by omega)).2.2.2.2.2 k _ (inW hC (by omega))).1
    unfold dueW at hd
    split at hd
    · split at hd
      · split at hd
        · rename_i hc
          cases hd
          exact attO_len hc
        · cases hd
      · split at hd
        · rename_i hc
          cases hd
          exact attI_len hr.2.2.2.2.2.2.2 hc
        · cases hd
    · cases hd
theorem msg_nn (h : AI0 a) : ∀ y ∈ msgT (prx a k) (dueA a p k), (0 : Int32) ≤ y := fun y hy => by
  have hq := prx_pfx (k := k) h.1
  cases hd : dueA a p k with
  | none =>
    rw [hd] at hy
    have hy : y ∈ msgW (prx a k) := hy
    unfold msgW at hy
    simp only [List.mem_cons, List.not_mem_nil, or_false] at hy
    rcases hy with rfl | rfl | rfl | rfl | rfl | rfl
    · decide
    · decide
    · decide
    · exact hq.1
    · exact hq.2.2.1
    · decide
  | some t =>
    have hn := dueA_nn h hd
    rw [hd] at hy
    have hy : y ∈ msgA t (prx a k) := hy
    unfold msgA at hy
    simp only [List.mem_cons, List.mem_append, List.not_mem_nil, or_false] at hy
    rcases hy with rfl | rfl | rfl | rfl | hy | rfl | rfl
    · exact nn_nI (by have := due_len h hd; omega)
    · decide
    · decide
    · exact nn_nI (by have := due_len h hd; omega)
    · exact hn y hy
    · exact hq.1
    · exact hq.2.2.1
theorem AI0_tell1 (h : AI0 a) (hp : p < 4) : AI0 (tell1 a p k).1 := by
  unfold tell1
  split
  · exact h
  · exact AI0_pe h (okS_send (okS_tol (h.2.2 p hp)) (msg_nn h))
theorem AI0_tAt (h : AI0 a) : AI0 (tAt a j).1 := by
  unfold tAt
  split
  · exact AI0_tell1 h (Nat.mod_lt _ (by omega))
  · exact h
theorem AI0_rnd : ∀ (d j : Nat) (a : Ab), AI0 a → AI0 (rnd d j a).1
  | 0, _, a, h => h
  | d + 1, j, a, h => by
    unfold rnd
    split
    · exact AI0_rnd d (j + 1) _ (AI0_tAt h)
    · exact AI0_tAt h
theorem AI0_tAll : ∀ (n : Nat) (a : Ab), AI0 a → AI0 (tAll n a)
  | 0, a, h => h
  | n + 1, a, h => by
    unfold tAll
    split
    · exact AI0_rnd _ _ _ h
    · exact AI0_tAll n _ (AI0_rnd _ _ _ h)
/-- what the choice sees of w is the same -/
def chW (a b : Ab) (k w : Nat) : Prop := chS (aPe a w) (aPe b w) ∨ (pInc (aPe a w) k = none ∧ pInc (aPe b w) k = none)
theorem cnd_chW {w : Nat} (h1 : aPre b = aPre a) (h2 : aOrg b = aOrg a) (hw : w < 5) (h3 : w < 4 → chW a b k w) : cnd b k w = cnd a k w := by
  have hp : prx b k = prx a k := by unfold prx; rw [h1]
  unfold cnd
  by_cases e : w = 4
  · rw [if_pos e, if_pos e, h2]
  · rw [if_neg e, if_neg e]
    rcases h3 (by omega) with ⟨c1, c2, c3, c4, c5⟩ | ⟨c1, c2⟩
    · rw [c4, hp, c1, c5]
      unfold bad prf
      rw [c2, c3]
    · rw [c1, c2]
theorem best_chW (h1 : aPre b = aPre a) (h2 : aOrg b = aOrg a) (h3 : ∀ w, w < 4 → chW a b k w) : bestO b k = bestO a k := by
  have hc : ∀ w, w < 5 → cnd b k w = cnd a k w := fun w hw => cnd_chW h1 h2 hw (h3 w)
  unfold bestO
  refine winO_congr (fun w hw => runC_congr (fun t w hw => ?_) (fun w hw => ?_) (fun w hw => ?_) 7 w hw)
  · unfold msA; rw [hc w hw]
  · unfold fnA; rw [hc w hw]
  · unfold C0; rw [hc w hw]
theorem due_chW (h1 : aPre b = aPre a) (h2 : aOrg b = aOrg a) (h3 : ∀ w, w < 4 → chW a b k w) (p1 : pRole (aPe b p) = pRole (aPe a p)) (p2 : pPad (aPe b p) = pPad (aPe a p)) (p3 : pMl (aPe b p) = pMl (aPe a p)) (p4 : pMa (aPe b p) = pMa (aPe a p)) : dueA b p k = dueA a p k := by
  have hp : prx b k = prx a k := by unfold prx; rw [h1]
  unfold dueA
  rw [best_chW h1 h2 h3]
  cases hb : bestO a k with
  | none => rfl
  | some w =>
    obtain ⟨hw, hC⟩ := bestO_some hb
    show dueW b p k w = dueW a p k w
    have key : rtW b w k = rtW a w k ∧ prW b w k = prW a w k ∧ idW b w = idW a w ∧ (w ≠ 4 → pRole (aPe b w) = pRole (aPe a w)) := by
      by_cases e : w = 4
      · subst e
        refine ⟨?_, ?_, ?_, fun z => absurd rfl z⟩
        · unfold rtW; rw [if_pos rfl, if_pos rfl]
        · unfold prW; rw [if_pos rfl, if_pos rfl]
        · unfold idW; rw [if_pos rfl, if_pos rfl]
      · have hi := inW hC (by omega)
        rcases h3 w (by omega) with ⟨c1, c2, c3, c4, c5⟩ | ⟨c1, c2⟩
        · have er : rtW b w k = rtW a w k := by unfold rtW; rw [if_neg e, if_neg e, c4]
          refine ⟨er, ?_, ?_, fun _ => c1⟩
          · unfold prW prf; rw [if_neg e, if_neg e, er, hp, c2]
          · unfold idW; rw [if_neg e, if_neg e, c1, c5]
        · rw [c1] at hi; cases hi
    obtain ⟨e1, e2, e3, e4⟩ := key
    have hm : meant b p k w ↔ meant a p k w := by
      unfold meant mute
      rw [hp, p1, p3, p4]
      by_cases e : w = 4
      · subst e; simp
      · rw [e4 e]
    unfold dueW
    by_cases hmm : meant a p k w
    · rw [if_pos hmm, if_pos (hm.mpr hmm), e1, e2, e3, p1, p2]
    · rw [if_neg hmm, if_neg (fun z => hmm (hm.mp z))]
/-- position i: peer i % 4, prefix i / 4 -/
def Ut (a : Ab) (i : Nat) : Prop := pSt (aPe a (i % 4)) = 3 → pTol (aPe a (i % 4)) (i / 4) = dueA a (i % 4) (i / 4)
theorem tell1_ut (h3 : pSt (aPe a p) = 3) (ht : (tell1 a p k).2 = true) : (∀ q l, dueA (tell1 a p k).1 q l = dueA a q l) ∧ pTol (aPe (tell1 a p k).1 p) k = dueA a p k ∧ (∀ q l, (q ≠ p ∨ l ≠ k) → pTol (aPe (tell1 a p k).1 q) l = pTol (aPe a q) l) ∧ ∀ q, pSt (aPe (tell1 a p k).1 q) = pSt (aPe a q) := by
  have hch := ch_tell1 ht
  have hcf := cfA_tell1 (a := a) (p := p) (k := k)
  refine ⟨fun q l => due_chW hcf.1 hcf.2.1 (fun w _ => Or.inl (hch w)) (hcf.2.2 q).1 (hcf.2.2 q).2.2.1 (hcf.2.2 q).2.2.2.1 (hcf.2.2 q).2.2.2.2.1, ?_⟩
  clear hch hcf
  unfold tell1 at ht ⊢
  by_cases e : pTol (aPe a p) k = dueA a p k
  · rw [if_pos e]
    exact ⟨e, fun _ _ _ => rfl, fun _ => rfl⟩
  · rw [if_neg e] at ht ⊢
    have hf : fitS (aPe a p) (msgT (prx a k) (dueA a p k)) := of_decide_eq_true ht
    show pTol (aPe (stPe a p _) p) k = _ ∧ (∀ q l, _ → pTol (aPe (stPe a p _) q) l = _) ∧ ∀ q, pSt (aPe (stPe a p _) q) = _
    have hs : sendS (sTol (aPe a p) (upO (pTol (aPe a p)) k (dueA a p k))) (msgT (prx a k) (dueA a p k)) = sOut (sTol (aPe a p) (upO (pTol (aPe a p)) k (dueA a p k))) (pOut (sTol (aPe a p) (upO (pTol (aPe a p)) k (dueA a p k))) ++ msgT (prx a k) (dueA a p k)) := by
      unfold sendS; rw [gt_Out, if_pos hf]
    rw [hs]
    refine ⟨?_, fun q l hql => ?_, fun q => ?_⟩
    · rw [stPe_at, go_Tol, gt_Tol]; exact upO_same
    · by_cases eq : q = p
      · subst eq
        rw [stPe_at, go_Tol, gt_Tol]
        exact upO_ne (hql.resolve_left (fun z => z rfl))
      · rw [stPe_ne eq]
    · by_cases eq : q = p
      · subst eq
        rw [stPe_at, go_St, gt_St]
      · rw [stPe_ne eq]
theorem tAt_ut (ht : (tAt a j).2 = true) : Ut (tAt a j).1 j ∧ ∀ i, Ut a i → Ut (tAt a j).1 i := by
  unfold tAt at ht ⊢
  by_cases h3 : pSt (aPe a (j % 4)) = 3
  · rw [if_pos h3] at ht ⊢
    obtain ⟨u1, u2, u3, u4⟩ := tell1_ut h3 ht
    refine ⟨fun _ => by rw [u1]; exact u2, fun i hi hst => ?_⟩
    rw [u4] at hst
    rw [u1]
    by_cases e : i % 4 = j % 4 ∧ i / 4 = j / 4
    · rw [e.1, e.2]; exact u2
    · rw [u3 _ _ (by omega)]; exact hi hst
  · rw [if_neg h3]
    exact ⟨fun z => absurd z h3, fun i hi => hi⟩
theorem rnd_ut : ∀ (d j : Nat) (a : Ab), (rnd d j a).2 = true → (∀ i, i < j → Ut a i) → ∀ i, i < j + d → Ut (rnd d j a).1 i
  | 0, j, a, _, h => fun i hi => h i hi
  | d + 1, j, a, ht, h => by
    have e : rnd (d + 1) j a = if (tAt a j).2 then rnd d (j + 1) (tAt a j).1 else ((tAt a j).1, false) := rfl
    rw [e] at ht ⊢
    cases hb : (tAt a j).2 with
    | true =>
      rw [hb] at ht
      obtain ⟨u1, u2⟩ := tAt_ut hb
      intro i hi
      exact rnd_ut d (j + 1) _ ht (fun q hq => by
        by_cases eq : q = j
        · subst eq; exact u1
        · exact u2 q (h q (by omega))) i (by omega)
    | false => rw [hb] at ht; cases ht
theorem rnd_dn : ∀ (d j : Nat) (a : Ab), (rnd d j a).2 = false → upN (rnd d j a).1 4 + 1 = upN a 4
  | 0, j, a, h => by cases h
  | d + 1, j, a, h => by
    have e : rnd (d + 1) j a = if (tAt a j).2 then rnd d (j + 1) (tAt a j).1 else ((tAt a j).1, false) := rfl
    rw [e] at h ⊢
    cases hb : (tAt a j).2 with
    | true =>
      rw [hb] at h
      have := rnd_dn d (j + 1) _ h
      rw [tAt_up.1 hb] at this
      exact this
    | false => exact tAt_up.2 hb
theorem Ut_UTD (h : ∀ i, i < 4 * (aPre a).length → Ut a i) : UTD a := fun p hp h3 k hk => by
  have := h (4 * k + p) (by omega)
  unfold Ut at this
  rw [show (4 * k + p) % 4 = p by omega, show (4 * k + p) / 4 = k by omega] at this
  exact this h3
theorem UTD_Ut (h : UTD a) : ∀ i, i < 4 * (aPre a).length → Ut a i := fun i hi h3 => h (i % 4) (Nat.mod_lt _ (by omega)) h3 (i / 4) (by omega)
theorem tAll_utd : ∀ (m : Nat) (a : Ab), upN a 4 ≤ m → UTD (tAll (m + 1) a) := fun m => by
  induction m with
  | zero =>
    intro a h
    unfold tAll
    cases hb : (rnd (4 * (aPre a).length) 0 a).2 with
    | true =>
      refine Ut_UTD (fun i hi => ?_)
      have hp : aPre (rnd (4 * (aPre a).length) 0 a).1 = aPre a := (cfA_rnd _ _ _).1
      simp only [if_true] at hi ⊢
      rw [hp] at hi
      exact rnd_ut _ 0 a hb (fun q hq => by omega) i (by omega)
    | false => have := rnd_dn _ _ _ hb; omega
  | succ m ih =>
    intro a h
    have e : tAll (m + 1 + 1) a = if (rnd (4 * (aPre a).length) 0 a).2 then (rnd (4 * (aPre a).length) 0 a).1 else tAll (m + 1) (rnd (4 * (aPre a).length) 0 a).1 := rfl
    rw [e]
    cases hb : (rnd (4 * (aPre a).length) 0 a).2 with
    | true =>
      refine Ut_UTD (fun i hi => ?_)
      have hp : aPre (rnd (4 * (aPre a).length) 0 a).1 = aPre a := (cfA_rnd _ _ _).1
      simp only [if_true] at hi ⊢
      rw [hp] at hi
      exact rnd_ut _ 0 a hb (fun q hq => by omega) i (by omega)
    | false =>
      have := rnd_dn _ _ _ hb
      exact ih _ (by omega)
theorem AInv_tAll (h : AI0 a) : AInv (tAll 5 a) := ⟨AI0_tAll 5 a h, tAll_utd 4 a (upN_le 4)⟩
theorem rnd_id : ∀ (d j : Nat), (∀ i, j ≤ i → i < j + d → Ut a i) → rnd d j a = (a, true)
  | 0, _, _ => rfl
  | d + 1, j, h => by
    have ht : tAt a j = (a, true) := by
      unfold tAt
      split
      · rename_i h3
        unfold tell1
        rw [if_pos (h j (Nat.le_refl j) (by omega) h3)]
      · rfl
    have e : rnd (d + 1) j a = if (tAt a j).2 then rnd d (j + 1) (tAt a j).1 else ((tAt a j).1, false) := rfl
    rw [e, ht]
    exact rnd_id d (j + 1) (fun i h1 h2 => h i (by omega) (by omega))
theorem tAll_id (h : UTD a) : tAll 5 a = a := by
  have e : tAll 5 a = if (rnd (4 * (aPre a).length) 0 a).2 then (rnd (4 * (aPre a).length) 0 a).1 else tAll 4 (rnd (4 * (aPre a).length) 0 a).1 := rfl
  rw [e, rnd_id _ 0 (fun i _ hi => UTD_Ut h i (by omega))]
  rfl
theorem st_tAt {q : Nat} : pSt (aPe (tAt a j).1 q) = pSt (aPe a q) ∨ pSt (aPe (tAt a j).1 q) = 0 := by
  unfold tAt
  split
  · unfold tell1
    split
    · exact Or.inl rfl
    · show pSt (aPe (stPe a (j % 4) _) q) = _ ∨ pSt (aPe (stPe a (j % 4) _) q) = 0
      by_cases e : q = j % 4
      · subst e
        rw [stPe_at]
        unfold sendS
        split
        · rw [go_St, gt_St]; exact Or.inl rfl
        · rw [cl_St]; exact Or.inr rfl
      · rw [stPe_ne e]; exact Or.inl rfl
  · exact Or.inl rfl
theorem idle_rnd {q : Nat} : ∀ (d j : Nat) (a : Ab), pSt (aPe a q) = 0 → pSt (aPe (rnd d j a).1 q) = 0
  | 0, _, _, h => h
  | d + 1, j, a, h => by
    have h1 : pSt (aPe (tAt a j).1 q) = 0 := (st_tAt (a := a) (j := j) (q := q)).elim (fun e => e.trans h) id
    unfold rnd
    split
    · exact idle_rnd d (j + 1) _ h1
    · exact h1
theorem idle_tAll {q : Nat} : ∀ (n : Nat) (a : Ab), pSt (aPe a q) = 0 → pSt (aPe (tAll n a) q) = 0
  | 0, _, h => h
  | n + 1, a, h => by
    unfold tAll
    split
    · exact idle_rnd _ _ _ h
    · exact idle_tAll n _ (idle_rnd _ _ _ h)
/-- a change of one peer that the choice doesn't see -/
theorem UTD_pe (h : UTD a) (hp : p < 4) (h0 : ∀ k, chW a (stPe a p s) k p) (h1 : pSt s = 3 → pSt (aPe a p) = 3 ∧ pTol s = pTol (aPe a p) ∧ pRole s = pRole (aPe a p) ∧ pPad s = pPad (aPe a p) ∧ pMl s = pMl (aPe a p) ∧ pMa s = pMa (aPe a p)) : UTD (stPe a p s) := fun q hq h3 k hk => by
  have hch : ∀ k w, w < 4 → chW a (stPe a p s) k w := fun k w _ => by
    by_cases e : w = p
    · subst e; exact h0 k
    · exact Or.inl (by rw [stPe_ne e]; exact chS.rf)
  by_cases e : q = p
  · subst e
    rw [stPe_at] at h3
    obtain ⟨g1, g2, g3, g4, g5, g6⟩ := h1 h3
    rw [due_chW (a := a) (b := stPe a q s) rfl rfl (hch k) (by rw [stPe_at]; exact g3) (by rw [stPe_at]; exact g4) (by rw [stPe_at]; exact g5) (by rw [stPe_at]; exact g6), stPe_at, g2]
    exact h q hq g1 k hk
  · rw [stPe_ne e] at h3
    rw [due_chW (a := a) (b := stPe a p s) rfl rfl (hch k) (by rw [stPe_ne e]) (by rw [stPe_ne e]) (by rw [stPe_ne e]) (by rw [stPe_ne e]), stPe_ne e]
    exact h q hq h3 k hk
end UT
