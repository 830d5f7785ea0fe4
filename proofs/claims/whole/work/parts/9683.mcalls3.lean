/-! the model's feed, take, session, known, penalty -/
section MCD
variable {μ σ τ σ1 : rs_Mem} {a b : Ab} {p k x : Nat} {s : Ps} {c : Int32}
theorem A0_comeM (h : AI0 a) (hl : (aPre a).length ≤ 12) (hp : p < 4) (hx : x < 256) : AI0 (comeM a p x) ∧ (aPre (comeM a p x)).length ≤ 12 := by
  have hs := h.2.2 p hp
  have hi := hs.2.2.1
  have e0 := inL_0 (a := a) (p := p) hx
  have el := inL_len (a := a) (p := p) (x := x)
  unfold comeM
  split
  · exact ⟨h, hl⟩
  · rename_i h0
    split
    · rename_i h1
      have hnil : pInb (aPe a p) = [] := List.eq_nil_of_length_eq_zero (by omega)
      rw [if_pos hnil] at e0
      split
      · refine ⟨AI0_pe h ?_, hl⟩
        rw [end_inb (l' := [])]
        exact okS_end (okS_Inb hs (okI_nil ii_Inb)) (by decide) (by decide)
      · exact ⟨AI0_pe h (okS_Inb hs (okI_more h hp hx (by omega))), hl⟩
    · rename_i h1
      split
      · obtain ⟨l1, l2⟩ := look_in h hl hp h0 hx
        exact ⟨AI0_tAll 5 _ l1, by rw [(cfA_tAll 5 _).1]; exact l2⟩
      · have hne : pInb (aPe a p) ≠ [] := fun z => by rw [z] at el; exact h1 el
        rw [if_neg hne] at e0
        have hsh := hi.2.resolve_left hne
        exact ⟨AI0_pe h (okS_Inb hs (okI_more h hp hx (by omega))), hl⟩
theorem P_Mo_come {Q : rs_Mem → Prop} (h : MR μ σ a) (hA : AI0 a) (hl : (aPre a).length ≤ 12) (hp : p < 4) (hx : x < 256) (kk : ∀ τ, MR μ τ (comeM a p x) → Q τ) : F_Mo_come NF 281 (nI p) (nI x) σ Q := by
  have v4 : vp_in (nI p) 4 := vpn hp (by omega)
  have i1 : (1 : Int32) = nI 1 := by decide
  have i2 : (2 : Int32) = nI 2 := by decide
  have i60 : (60 : Int32) = nI 60 := by decide
  have hs := hA.2.2 p hp
  have hi := hs.2.2.1
  obtain ⟨c1, c2, c3⟩ := (h.2.2.2 p hp).2.2.1
  have hlt : (pInb (aPe a p)).length < 60 := by
    rcases hi.2 with e | ⟨q1, q2, q3⟩
    · rw [e]; decide
    · omega
  have hb := inL_byt (x := x) hi hx
  have el := inL_len (a := a) (p := p) (x := x)
  have e0 := inL_0 (a := a) (p := p) hx
  unfold comeM at kk
  unfold F_Mo_come
  rw [gr_281_3 h.1, nf_284, nIc (by omega), (h.2.2.2 p hp).1.2.2.1]
  refine ⟨v4, fun h0 => ?_, fun h0 => by rw [if_pos h0] at kk; exact kk σ h⟩
  rw [if_neg h0] at kk
  rw [gr_281_16 h.1, nf_297, c1, i60, nI_mul, nI_add, gr_281_15 h.1, nf_296, nIc (n := 60 * p + (pInb (aPe a p)).length) (by omega)]
  refine ⟨v4, vpn (by omega) (by omega), fun σ2 e2 => ?_⟩
  have hG2 : Gr σ2 := e2 ▸ h.1
  have b1 : rs_I σ2 297 p = nI (pInb (aPe a p)).length := by rw [e2, I_ne (by omega)]; exact c1
  rw [gr_281_16 hG2, nf_297, b1, nI_1]
  refine ⟨v4, v4, fun σ3 e3 => ?_⟩
  have hG3 : Gr σ3 := e3 ▸ hG2
  have f3 : Fp (fun u j => (u = 296 ∧ 60 * p ≤ j ∧ j < 60 * p + 60) ∨ (u = 297 ∧ j = p)) σ σ3 := by
    rw [e3, e2]; exact (Fp.rf.sI (Or.inl ⟨rfl, by omega, by omega⟩)).sI (Or.inr ⟨rfl, rfl⟩)
  have hib : MIb σ3 p (inL a p x) := by
    refine ⟨by rw [e3, el]; exact I_same, by omega, fun k hk => ?_⟩
    rw [e3, I_ne (by omega), e2]
    by_cases e : k = (pInb (aPe a p)).length
    · subst e; rw [I_same]; exact (inL_last hk).symm
    · have hk2 : k < (pInb (aPe a p)).length := by rw [el] at hk; omega
      rw [I_nk (by omega)]; exact (c3 k hk2).trans (inL_get hk hk2).symm
  have fin : ∀ u j, ((u = 296 ∧ 60 * p ≤ j ∧ j < 60 * p + 60) ∨ (u = 297 ∧ j = p)) → InP p u j ∨ ScP u j := fun u j z => Or.inl (by unfold InP; omega)
  have g3 : MR μ σ3 (stPe a p (sInb (aPe a p) (inL a p x))) := h.pe (f3.mono fin) hG3 ((h.2.2.2 p hp).sInb f3 hib) hp
  obtain ⟨m0, m0b⟩ := mOf_at hb (k := 0) (by omega)
  have d0 : rs_I σ3 296 (60 * p) = nI (mOf (inL a p x) 0) := by
    have := hib.2.2 0 (by omega)
    rw [Nat.add_zero] at this
    exact this.trans m0
  rw [gr_281_16 hG3, nf_297, hib.1, gr_281_15 hG3, nf_296, nIc (n := 60 * p) (by omega), d0, i1, nIeq (by omega) (by omega), nIeq (by omega) (by omega)]
  refine ⟨v4, fun hn1 => ⟨v4, vpn (by omega) (by omega), fun hnf => ?_, fun hf => ⟨v4, fun σ4 e4 => ?_⟩⟩, fun h1 => ?_⟩
  · rw [if_neg hn1, if_neg hnf] at kk
    exact kk σ3 g3
  · rw [if_neg hn1, if_pos hf] at kk
    have hG4 : Gr σ4 := e4 ▸ hG3
    have f4 : Fp (fun u j => u = 297 ∧ j = p) σ3 σ4 := by rw [e4]; exact Fp.rf.sI ⟨rfl, rfl⟩
    have f34 : Fp (fun u j => (u = 296 ∧ 60 * p ≤ j ∧ j < 60 * p + 60) ∨ (u = 297 ∧ j = p)) σ σ4 := f3.tr (f4.mono fun u j z => Or.inr z)
    have g4 : MR μ σ4 (stPe a p (sInb (aPe a p) [])) := h.pe (f34.mono fin) hG4 ((h.2.2.2 p hp).sInb f34 ⟨by rw [e4]; exact I_same, Nat.zero_le _, Ar_nil⟩) hp
    have hsh : 2 ≤ mOf (inL a p x) 0 ∧ mOf (inL a p x) 0 ≤ 60 := by
      have hne : pInb (aPe a p) ≠ [] := fun z => by rw [z] at el; exact hn1 el
      rw [if_neg hne] at e0
      have := hi.2.resolve_left hne
      omega
    have hM : MM σ4 p (mOf (inL a p x) 0) (mOf (inL a p x)) := fun j hj => by
      rw [← hf] at hj
      obtain ⟨q1, q2⟩ := mOf_at hb hj
      exact ⟨(f4.I (by omega)).trans ((hib.2.2 j hj).trans q1), q2⟩
    have hs0 := AI0_inb0 hA hp
    have ep : aPe (stPe a p (sInb (aPe a p) [])) p = sInb (aPe a p) [] := stPe_at
    have hss := hs0.2.2 p hp
    rw [gr_281_15 hG4, nf_296, f4.I (by omega), d0]
    refine ⟨vpn (by omega) (by omega), P_Mo_look g4 hp (fun k rt hk hr => ((hss.2.2.2.2.2 k rt hk).2 hr)) hss.1.2.2.2.1 hss.1.2.2.2.2 hsh.1 hsh.2 hM (fun ρ r1 => ?_)⟩
    obtain ⟨l1, l2⟩ := look_in hA hl hp h0 hx
    exact P_Mo_tell r1 (AI0_AW l1) kk
  · rw [if_pos h1] at kk
    have b58 : (x < 2 ∨ 60 < x) → B_Mo_come_58 NF Q 281 (nI p) σ3 := fun hbd => by
      rw [if_pos hbd] at kk
      refine P_Mo_endA g3 hp (fun ρ r1 => kk ρ ?_)
      rw [stPe_at, stPe_self] at r1
      exact r1
    rw [i2, nIlt (by omega) (by omega), nIle (by omega) (by omega)]
    refine ⟨fun z => b58 (Or.inl z), fun z => ⟨fun y => ?_, fun y => b58 (Or.inr (by omega))⟩⟩
    rw [if_neg (by omega)] at kk
    exact kk σ3 g3
theorem M_feed {x n : Int32} {y : Int64} {Q : Int32 → rs_Mem → Prop} (h : MR σ σ a) (hJ : AJ a) (kk : ResB σ (opFeed a x y n) Q) : F_Mo_feed NF 281 x y n σ Q := by
  have b25 : ¬ (okP x ∧ 1 ≤ n ∧ n ≤ 8) → B_Mo_feed_25 NF Q 281 x y n 281 σ := fun hc σ1 e1 => by
    have g := h.code e1
    have eop : opFeed a x y n = (1, 0, a) := by unfold opFeed; rw [if_pos hc]
    exact v_f (by rw [e1, I_same]; decide) (doneB g e1 (by rw [eop]) (by rw [eop]) (fun z => by rw [eop] at z; exact absurd z n10) kk)
  unfold F_Mo_feed
  refine P_Mo_isPeer (fun hx => w_f (by decide) ⟨fun hn => b25 (fun z => by have := z.2.1; grind), fun hn => ⟨fun hn8 => b25 (fun z => by have := z.2.2; grind), fun hn8 => ?_⟩⟩) (fun hx => w_t rfl (b25 (fun z => hx z.1)))
  obtain ⟨p, hp, rfl⟩ := okP_of hx
  have hn8' : n ≤ 8 := by grind
  obtain ⟨N, hN, rfl⟩ := nI_of2 (n := 8) (x := n) (M := 8) (by decide) (by grind) hn8'
  have hg : okP (nI p) ∧ 1 ≤ nI N ∧ nI N ≤ 8 := ⟨hx, by grind, hn8'⟩
  have v4 : vp_in (nI p) 4 := vpn hp (by omega)
  intro σ1 e1
  have g := h.code e1
  refine v_t (by rw [e1]; exact I_same) ?_
  rw [gr_281_3 g.1, nf_284, nIc (by omega), (g.2.2.2 p hp).1.2.2.1]
  refine ⟨v4, fun h0 => ?_, fun h0 => ?_⟩
  · have eop : opFeed a (nI p) y (nI N) = (0, 1, fdC p y N a) := by
      unfold opFeed; rw [if_neg (fun q => q hg), tN_nI (by omega), if_neg h0, nIc (by omega)]
    have key : ∀ i τ b, i ≤ N → MR σ1 τ b → AI0 b → (aPre b).length ≤ 12 → fdM p y i b = fdM p y N a → L_Mo_feed_53 NF Q (i + 1) 281 (nI p) y (nI i + -1) τ := by
      intro i
      induction i with
      | zero =>
        intro τ b hi r1 r2 r3 r4
        have e : fdM p y 0 b = b := rfl
        rw [e] at r4
        refine w_t (by decide) (P_Mo_tell r1 (AI0_AW r2) (fun ρ t1 => ?_))
        rw [r4, fd_eq N a hJ hp] at t1
        exact doneB t1 e1 (by rw [eop]) (by rw [eop]) (fun _ => by rw [eop]; exact ⟨fun z => absurd z (by decide), fun _ => rfl⟩) kk
      | succ i ih =>
        intro τ b hi r1 r2 r3 r4
        rw [pre_m1]
        refine w_f (nI_pos (by omega)) ?_
        rw [byt_M (by omega)]
        obtain ⟨m1, m2⟩ := A0_comeM (x := byt y i) r2 r3 hp byt_lt
        refine P_Mo_come r1 r2 r3 hp byt_lt (fun ρ t1 x53 e53 => ?_)
        subst e53
        exact ih ρ _ (by omega) t1 m1 m2 r4
    intro x9 e9
    have e9' : x9 = nI N + -1 := by rw [e9, Int32.sub_eq_add_neg]
    subst e9'
    exact ⟨_, key N σ1 a (Nat.le_refl N) g hJ.1.1 hJ.2 rfl⟩
  · have eop : opFeed a (nI p) y (nI N) = (0, 0, a) := by
      unfold opFeed; rw [if_neg (fun q => q hg), tN_nI (by omega), if_pos h0]
    exact doneB g e1 (by rw [eop]) (by rw [eop]) (fun _ => by rw [eop]; exact ⟨fun _ => rfl, fun z => absurd rfl z⟩) kk
theorem AJ_feed {x n : Int32} {y : Int64} (h : AJ a) : AJ (opFeed a x y n).2.2 := by
  unfold opFeed
  split
  · exact h
  · rename_i hg
    have hg := Classical.not_not.mp hg
    obtain ⟨p, hp, rfl⟩ := okP_of hg.1
    rw [tN_nI (by omega)]
    split
    · exact h
    · have key : ∀ i b, AJ b → AJ (fdC p y i b) := fun i => by
        induction i with
        | zero => intro b hb; exact hb
        | succ i ih => intro b hb; exact ih _ (AJ_comeC hb hp byt_lt)
      exact key _ a h
end MCD
