/-! the model: the route that an UPDATE says; prefixes learned; changes of what came in -/
section MHA
variable {μ σ : rs_Mem} {a : Ab} {p n k : Nat} {m : Nat → Nat} {ps : List Nat}
def rtI (m : Nat → Nat) (ps : List Nat) (int : Bool) : Rt := if int = true then rtU m ps else dropR (rtU m ps)
theorem nm_vlU5 {d : Int32} (h : 5 ∈ ps.map m) : vlU m ps 5 d = vlU m ps 5 100 := by
  unfold vlU
  cases hf : fnd1 m ps 5 with
  | none => exact absurd h (fnd1_none.mp hf)
  | some i => rfl
theorem P_Mo_hand {int : Bool} {Q : rs_Mem → Prop} (hG : Gr σ) (hp : p < 4) (hn60 : n ≤ 60) (hM : MM σ p n m) (hP : PLc σ p m ps) (hV : VA m n ps) (h2 : 2 ∈ ps.map m) (h5 : int = true → 5 ∈ ps.map m)
    (kk : ∀ τ, MRt τ 60 (rtI m ps int) (!int) → Fp (RtP 60) σ τ → Gr τ → Q τ) : F_Mo_hand NF 281 (b2i int) σ Q := by
  have t2 : (2 : Int32).toNatClampNeg = 2 := by decide
  have t10 : (10 : Int32).toNatClampNeg = 10 := by decide
  have t60 : (60 : Int32).toNatClampNeg = 60 := by decide
  have i60 : (60 : Int32) = nI 60 := by decide
  have i6 : (6 : Int32) = nI 6 := by decide
  have i8 : (8 : Int32) = nI 8 := by decide
  have v61 : vp_in (60 : Int32) 61 := vpl rfl
  have mm : ∀ {τ}, Fp (RtP 60) σ τ → MM τ p n m := fun f => hM.fp f (fun j q => by unfold RtP at q; omega)
  have pp : ∀ {τ}, Fp (RtP 60) σ τ → PLc τ p m ps := fun f => hP.fp f (fun j q => by unfold RtP at q; omega)
  obtain ⟨j2, q2, l2, l2b⟩ : ∃ i, fnd1 m ps 2 = some i ∧ i + 2 + m (i + 1) ≤ n ∧ m (i + 1) ≤ 8 := by
    cases hf : fnd1 m ps 2 with
    | none => exact absurd h2 (fnd1_none.mp hf)
    | some i =>
      obtain ⟨h1, h2⟩ := VA_lst hV (Or.inl rfl) hf
      exact ⟨i, rfl, h1, h2⟩
  have pl2 : ∀ {τ}, Fp (RtP 60) σ τ → rs_I τ 318 2 = nI (60 * p + j2 + 1) := fun f => by
    have := (pp f) 2 (by omega)
    rw [if_pos (by unfold isNm; omega), q2] at this
    exact this
  have hA : rtA (rtI m ps int) = sl m (j2 + 2) (m (j2 + 1)) := by
    have : rtA (rtI m ps int) = lsU m ps 2 := by unfold rtI; split <;> rfl
    rw [this]; unfold lsU; rw [q2]
  unfold F_Mo_hand
  refine P_Mo_said hG hp hn60 hM hP hV (by decide : (1 : Int32) = nI 1) (Or.inl rfl) ?_
  rw [gr_281_25 hG, nf_304, t60]
  refine ⟨v61, fun σ1 e1 => ?_⟩
  have hG1 : Gr σ1 := e1 ▸ hG
  have f1 : Fp (RtP 60) σ σ1 := by rw [e1]; exact Fp.rf.sI (by unfold RtP; omega)
  refine P_Mo_said hG1 hp hn60 (mm f1) (pp f1) hV (by decide : (3 : Int32) = nI 3) (by omega) ?_
  rw [gr_281_28 hG1, nf_307]
  refine ⟨v61, fun σ2 e2 => ?_⟩
  have hG2 : Gr σ2 := e2 ▸ hG1
  have f2 : Fp (RtP 60) σ σ2 := by rw [e2]; exact f1.sI (by unfold RtP; omega)
  refine P_Mo_said hG2 hp hn60 (mm f2) (pp f2) hV (by decide : (4 : Int32) = nI 4) (by omega) ?_
  rw [gr_281_29 hG2, nf_308]
  refine ⟨v61, fun σ3 e3 => ?_⟩
  have hG3 : Gr σ3 := e3 ▸ hG2
  have f3 : Fp (RtP 60) σ σ3 := by rw [e3]; exact f2.sI (by unfold RtP; omega)
  have b58 : ∀ y : Int32, y = (if (!int) = true then 0 else rtP (rtI m ps int)) → B_Mo_hand_58 NF Q 281 (b2i int) 60 309 60 y σ3 := fun y hy => by
    unfold B_Mo_hand_58
    rw [nf_309, t60]
    refine ⟨v61, fun σ4 e4 => ?_⟩
    have hG4 : Gr σ4 := e4 ▸ hG3
    have f4 : Fp (RtP 60) σ σ4 := by rw [e4]; exact f3.sI (by unfold RtP; omega)
    have b79 : ∀ z : Int32, z = rtS (rtI m ps int) → B_Mo_hand_79 NF Q 281 (b2i int) 60 310 60 z σ4 := fun z hz => by
      unfold B_Mo_hand_79
      rw [nf_310, t60]
      refine ⟨v61, fun σ5 e5 => ?_⟩
      have hG5 : Gr σ5 := e5 ▸ hG4
      have f5 : Fp (RtP 60) σ σ5 := by rw [e5]; exact f4.sI (by unfold RtP; omega)
      rw [gr_281_39 hG5, nf_318, t2, pl2 f5, gr_281_15 hG5, nf_296, gr_281_26 hG5, nf_305, nIc (n := 60 * p + j2 + 1) (by omega), (mm f5).at' (j := j2 + 1) (by omega) (by omega)]
      refine ⟨vpl rfl, vpn (by omega) (by omega), v61, fun σ6 e6 => ?_⟩
      have hG6 : Gr σ6 := e6 ▸ hG5
      have f6 : Fp (RtP 60) σ σ6 := by rw [e6]; exact f5.sI (by unfold RtP; omega)
      have c304 : rs_I σ6 304 60 = rtO (rtI m ps int) := by
        have : rtO (rtI m ps int) = vlU m ps 1 0 := by unfold rtI; split <;> rfl
        rw [this, e6, e5, e4, e3, e2, e1]; simp [I_I]
      have c307 : rs_I σ6 307 60 = rtN (rtI m ps int) := by
        have : rtN (rtI m ps int) = vlU m ps 3 0 := by unfold rtI; split <;> rfl
        rw [this, e6, e5, e4, e3, e2]; simp [I_I]
      have c308 : rs_I σ6 308 60 = rtM (rtI m ps int) := by
        have : rtM (rtI m ps int) = vlU m ps 4 (-1) := by unfold rtI; split <;> rfl
        rw [this, e6, e5, e4, e3]; simp [I_I]
      have c309 : rs_I σ6 309 60 = (if (!int) = true then 0 else rtP (rtI m ps int)) := by
        rw [e6, I_ne (by omega), e5, I_ne (by omega), e4, I_same, hy]
      have c310 : rs_I σ6 310 60 = rtS (rtI m ps int) := by
        rw [e6, I_ne (by omega), e5, I_same, hz]
      have c305 : rs_I σ6 305 60 = nI (rtA (rtI m ps int)).length := by
        rw [e6, I_same, hA, sl_len]
      -- the clusters
      have clu : ∀ τ, Fp (fun u j => u = 306 ∧ 480 ≤ j ∧ j < 488) σ6 τ → Ar τ 306 480 (rtA (rtI m ps int)) → Gr τ → ∀ j10 (L : Nat) σ7, rtC (rtI m ps int) = sl m (j10 + 2) L → L ≤ 6 → (0 < L → rs_I τ 318 10 = nI (60 * p + j10 + 1) ∧ j10 + 2 + L ≤ n) → σ7 = rs_sI τ 311 60 (nI L) → ∃ n : Nat, L_Mo_hand_179 NF Q n 281 60 0 σ7 := fun τ g2 g1 g3 j10 L σ7 hC hL6 hL e7 => by
        have hG7 : Gr σ7 := e7 ▸ g3
        have f7 : Fp (fun u j => (u = 306 ∧ 480 ≤ j ∧ j < 488) ∨ (u = 311 ∧ j = 60)) σ6 σ7 := by rw [e7]; exact (g2.mono fun u j z => Or.inl z).sI (Or.inr ⟨rfl, rfl⟩)
        have f7s : Fp (RtP 60) σ σ7 := f6.tr (f7.mono fun u j z => by unfold RtP; omega)
        have c311 : rs_I σ7 311 60 = nI L := by rw [e7]; exact I_same
        have c306 : Ar σ7 306 480 (rtA (rtI m ps int)) := fun q hq => by rw [e7, I_ne (by omega)]; exact g1 q hq
        have key : ∀ d i ρ, i + d = L → (∀ q, q < i → rs_I ρ 312 (360 + q) = nI (m (j10 + 2 + q))) → Fp (fun u j => u = 312 ∧ 360 ≤ j ∧ j < 366) σ7 ρ → Gr ρ → L_Mo_hand_179 NF Q (d + 1) 281 60 (nI i) ρ := by
          intro d
          induction d with
          | zero =>
            intro i ρ hi r1 r2 r3
            have ei : i = L := by omega
            subst ei
            refine ⟨by rw [gr_281_32 r3, nf_311]; exact v61, w_t ?_ (kk ρ ⟨?_, ?_, fun q hq => ?_, ?_, ?_, ?_, ?_, ?_, fun q hq => ?_, ?_, ?_⟩ (f7s.tr (r2.mono fun u j z => by unfold RtP; omega)) r3)⟩
            · rw [gr_281_32 r3, t60, r2.I (by omega), c311]; exact (nIle (by omega) (by omega)).mpr (by omega)
            · exact ((r2.I (by omega)).trans (f7.I (by omega))).trans c304
            · exact ((r2.I (by omega)).trans (f7.I (by omega))).trans c305
            · exact (r2.I (by omega)).trans (c306 q hq)
            · exact ((r2.I (by omega)).trans (f7.I (by omega))).trans c307
            · exact ((r2.I (by omega)).trans (f7.I (by omega))).trans c308
            · exact ((r2.I (by omega)).trans (f7.I (by omega))).trans c309
            · exact ((r2.I (by omega)).trans (f7.I (by omega))).trans c310
            · rw [hC, sl_len]; exact (r2.I (by omega)).trans c311
            · rw [hC, sl_len] at hq
              simp only [hC, sl_get]
              exact r1 q hq
            · rw [hA, sl_len]; exact l2b
            · rw [hC, sl_len]; exact hL6
          | succ d ih =>
            intro i ρ hi r1 r2 r3
            obtain ⟨hpl, hln⟩ := hL (by omega)
            refine ⟨by rw [gr_281_32 r3, nf_311]; exact v61, w_f (fun z => ?_) ?_⟩
            · rw [gr_281_32 r3, t60, r2.I (by omega), c311] at z
              have := (nIle (by omega) (by omega)).mp z; omega
            have hpl2 : rs_I ρ 318 10 = nI (60 * p + j10 + 1) := (r2.I (by omega)).trans (by rw [e7, I_ne (by omega)]; exact hpl)
            have hMr : MM ρ p n m := mm (f7s.tr (r2.mono fun u j z => by unfold RtP; omega))
            rw [gr_281_39 r3, nf_318, t10, hpl2, gr_281_15 r3, nf_296, gr_281_33 r3, nf_312, i6, i60, nI_mul, nI_1, nI_add, nI_add, nIc (n := 60 * p + j10 + 1 + 1 + i) (by omega), nIc (n := 6 * 60 + i) (by omega), hMr.at' (j := j10 + 2 + i) (by omega) (by omega)]
            refine ⟨vpl rfl, vpn (by omega) (by omega), vpn (by omega) (by omega), fun σ8 e8 x ex => ?_⟩
            subst ex
            rw [nI_1]
            refine ih (i + 1) σ8 (by omega) (fun q hq => ?_) (by rw [e8]; exact r2.sI (by omega)) (e8 ▸ r3)
            rw [e8]
            by_cases eq : q = i
            · subst eq; exact I_same
            · rw [I_nk (by omega)]; exact r1 q (by omega)
        exact ⟨_, key L 0 σ7 (by omega) (fun q hq => by omega) Fp.rf hG7⟩
      have key : ∀ d i τ, i + d = m (j2 + 1) → (∀ q, q < i → rs_I τ 306 (480 + q) = nI (m (j2 + 2 + q))) → Fp (fun u j => u = 306 ∧ 480 ≤ j ∧ j < 488) σ6 τ → Gr τ → L_Mo_hand_99 NF Q (d + 1) 281 (b2i int) 60 (nI i) τ := by
        intro d
        induction d with
        | zero =>
          intro i τ hi g1 g2 g3
          have ei : i = m (j2 + 1) := by omega
          subst ei
          have fs : Fp (RtP 60) σ τ := f6.tr (g2.mono fun u j z => by unfold RtP; omega)
          have hAr : Ar τ 306 480 (rtA (rtI m ps int)) := fun q hq => by
            rw [hA, sl_len] at hq
            simp only [hA, sl_get]
            exact g1 q hq
          have b175 : rtC (rtI m ps int) = [] → B_Mo_hand_175 NF Q 281 60 311 60 τ := fun hC => by
            unfold B_Mo_hand_175
            rw [nf_311, t60]
            exact ⟨v61, fun σ7 e7 => clu τ g2 hAr g3 0 0 σ7 (by rw [hC]; rfl) (by omega) (fun z => by omega) e7⟩
          refine ⟨by rw [gr_281_26 g3, nf_305]; exact v61, w_t ?_ ?_⟩
          · rw [gr_281_26 g3, t60, g2.I (by omega), c305, hA, sl_len]; exact (nIle (by omega) (by omega)).mpr (by omega)
          · rw [gr_281_32 g3, gr_281_39 g3, nf_318, t10]
            cases hint : int with
            | false =>
              rw [hint] at b175
              exact w_t rfl (b175 rfl)
            | true =>
              rw [hint] at b175 clu
              refine w_f (by decide) ⟨vpl rfl, ?_⟩
              rcases (pp fs).st hV (x := 10) (by omega) (by unfold isNm; omega) with ⟨q10, f10, -⟩ | ⟨j10, q10, f10, -, l10⟩
              · rw [f10]
                refine w_t (by decide) (b175 ?_)
                show lsU m ps 10 = []
                unfold lsU; rw [q10]
              · obtain ⟨l10a, l10b⟩ := VA_lst hV (Or.inr rfl) q10
                rw [f10, gr_281_15 g3, nf_296, nf_311, t60, nIc (by omega), (mm fs).at' (j := j10 + 1) (by omega) (by omega)]
                refine w_f (nI_pos (by omega)) ⟨vpl rfl, vpn (by omega) (by omega), v61, fun σ7 e7 => ?_⟩
                have hAr' := hAr
                rw [hint] at hAr'
                refine clu τ g2 hAr' g3 j10 (m (j10 + 1)) σ7 ?_ l10b (fun _ => ⟨f10, l10a⟩) e7
                show lsU m ps 10 = _
                unfold lsU; rw [q10]
        | succ d ih =>
          intro i τ hi g1 g2 g3
          have fs : Fp (RtP 60) σ τ := f6.tr (g2.mono fun u j z => by unfold RtP; omega)
          refine ⟨by rw [gr_281_26 g3, nf_305]; exact v61, w_f (fun z => ?_) ?_⟩
          · rw [gr_281_26 g3, t60, g2.I (by omega), c305, hA, sl_len] at z
            have := (nIle (by omega) (by omega)).mp z; omega
          rw [gr_281_39 g3, nf_318, t2, pl2 fs, gr_281_15 g3, nf_296, gr_281_27 g3, nf_306, i8, i60, nI_mul, nI_1, nI_add, nI_add, nIc (n := 60 * p + j2 + 1 + 1 + i) (by omega), nIc (n := 8 * 60 + i) (by omega), (mm fs).at' (j := j2 + 2 + i) (by omega) (by omega)]
          refine ⟨vpl rfl, vpn (by omega) (by omega), vpn (by omega) (by omega), fun σ8 e8 x ex => ?_⟩
          subst ex
          rw [nI_1]
          refine ih (i + 1) σ8 (by omega) (fun q hq => ?_) (by rw [e8]; exact g2.sI (by omega)) (e8 ▸ g3)
          rw [e8]
          by_cases eq : q = i
          · subst eq; exact I_same
          · rw [I_nk (by omega)]; exact g1 q (by omega)
      exact ⟨_, key (m (j2 + 1)) 0 σ6 (by omega) (fun q hq => by omega) Fp.rf hG6⟩
    rw [gr_281_31 hG4]
    cases hint : int with
    | false =>
      rw [hint] at b79
      exact w_t rfl (b79 0 rfl)
    | true =>
      rw [hint] at b79
      exact w_f (by decide) (P_Mo_said hG4 hp hn60 (mm f4) (pp f4) hV (by decide : (9 : Int32) = nI 9) (by omega) (b79 _ rfl))
  rw [gr_281_30 hG3]
  cases hint : int with
  | false =>
    rw [hint] at b58
    exact w_t rfl (b58 0 rfl)
  | true =>
    rw [hint] at b58
    refine w_f (by decide) (P_Mo_said hG3 hp hn60 (mm f3) (pp f3) hV (by decide : (5 : Int32) = nI 5) (by omega) (b58 _ ?_))
    rw [nm_vlU5 (h5 hint)]
    rfl
def TkM : Nat → Nat → Prop := fun u j => (u = 281 ∧ j = 21) ∨ (301 ≤ u ∧ u ≤ 314)
theorem P_Mo_learned {q : Int32 × Int32} {Q : Int32 → rs_Mem → Prop} (h : MR μ σ a) (hroom : q ∉ aPre a → (aPre a).length < 12) (h1 : q ∈ aPre a → Q (nI ((aPre a).idxOf q)) σ)
    (h2 : q ∉ aPre a → ∀ τ, MR μ τ (stPre a (aPre a ++ [q])) → Fp (fun u j => (u = 281 ∧ j = 21) ∨ u = 301 ∨ u = 302) σ τ → Q (nI (aPre a).length) τ) : F_Mo_learned NF 281 q.1 q.2 σ Q := by
  have hl := h.2.1.2.1
  have a1 := h.2.1.1
  unfold F_Mo_learned
  refine P_Mo_find h.1 h.2.1 (fun hm => w_f (nI_pos (by have := mem_lt hm; omega)) (h1 hm)) (fun hm => w_t (by decide) ?_)
  have hlt := hroom hm
  rw [a1, gr_281_22 h.1, nf_301, nIc (by omega)]
  refine ⟨vpn hlt (by omega), fun σ1 e1 => ?_⟩
  have hG1 : Gr σ1 := e1 ▸ h.1
  have b1 : rs_I σ1 281 21 = nI (aPre a).length := by rw [e1, I_ne (by omega)]; exact a1
  rw [b1, gr_281_23 hG1, nf_302, nIc (by omega)]
  refine ⟨vpn hlt (by omega), fun σ2 e2 σ3 e3 => ?_⟩
  have b2 : rs_I σ2 281 21 = nI (aPre a).length := by rw [e2, I_ne (by omega)]; exact b1
  rw [b2, nI_1] at e3
  have b3 : rs_I σ3 281 21 = nI ((aPre a).length + 1) := by rw [e3]; exact I_same
  rw [b3, nI_pred]
  have f3 : Fp (fun u j => (u = 281 ∧ j = 21) ∨ u = 301 ∨ u = 302) σ σ3 := by
    rw [e3, e2, e1]; exact ((Fp.rf.sI (by omega)).sI (by omega)).sI (by omega)
  refine h2 hm σ3 ⟨by rw [e3, e2]; exact hG1, ⟨?_, ?_, fun k hk => ?_⟩, ⟨h.2.2.1.1.fp f3 (fun u j q1 q2 q3 q4 q5 => by omega), h.2.2.1.2.tr (f3.mono fun u j z => by omega)⟩, fun p hp => (h.2.2.2 p hp).fp f3 (fun u j z => by unfold InP at z; omega)⟩ f3
  · show _ = nI (aPre a ++ [q]).length
    rw [List.length_append]; exact b3
  · show (aPre a ++ [q]).length ≤ 12
    rw [List.length_append, List.length_singleton]; omega
  · have hk : k < (aPre a ++ [q]).length := hk
    show rs_I σ3 301 k = (aPre a ++ [q])[k].1 ∧ rs_I σ3 302 k = (aPre a ++ [q])[k].2
    rw [List.length_append, List.length_singleton] at hk
    by_cases e : k = (aPre a).length
    · subst e
      rw [e3, I_ne (by omega), I_ne (by omega), e2, I_ne (by omega), I_same, e1, I_same]
      simp
    · have h3 := h.2.1.2.2 k (by omega)
      rw [List.getElem_append_left (by omega)]
      rw [e3, I_ne (by omega), I_ne (by omega), e2, I_ne (by omega), I_nk e, e1, I_nk e, I_ne (by omega)]
      exact h3
theorem P_Mo_withdraw {q : Int32 × Int32} {Q : rs_Mem → Prop} (h : MR μ σ a) (hp : p < 4) (hn : nnS (aPe a p)) (kk : ∀ τ, MR μ τ (stPe a p (wdQ (aPre a) (aPe a p) q)) → Fp TkM σ τ → Q τ) : F_Mo_withdraw NF 281 (nI p) q.1 q.2 σ Q := by
  have hl := h.2.1.2.1
  have e12 : (12 : Int32) = nI 12 := by decide
  unfold F_Mo_withdraw
  have stay : MR μ σ (stPe a p (aPe a p)) := h.pe Fp.rf h.1 (h.2.2.2 p hp) hp
  refine P_Mo_find h.1 h.2.1 (fun hm => w_f (nI_pos (by have := mem_lt hm; omega)) ?_) (fun hm => w_t (by decide) (kk σ (by unfold wdQ; rw [if_neg hm]; exact stay) Fp.rf))
  have hk := mem_lt hm
  generalize hK : (aPre a).idxOf q = k at hk
  have hwd : wdQ (aPre a) (aPe a p) q = wdK (aPe a p) k := by unfold wdQ; rw [if_pos hm, hK]
  rw [hwd] at kk
  have hk12 : k < 12 := by omega
  have hs := h.2.2.2 p hp
  obtain ⟨t1, t2, t3, t4⟩ := hs.2.2.2.2.1 k hk12
  rw [e12, nI_mul, nI_add, gr_281_24 h.1, nf_303, nIc (by omega), t1]
  refine ⟨vpn (by omega) (by omega), fun hz => ⟨vpn (by omega) (by omega), fun σ1 e1 => ?_⟩, fun hz => ?_⟩
  · have hso : (pInc (aPe a p) k).isSome = true := by
      cases hc : (pInc (aPe a p) k).isSome with
      | true => rfl
      | false => rw [hc] at hz; exact absurd rfl hz
    have hG1 : Gr σ1 := e1 ▸ h.1
    have f1 : Fp (InK (12 * p + k)) σ σ1 := by rw [e1]; exact Fp.rf.sI (Or.inr (Or.inr ⟨rfl, rfl⟩))
    refine P_Mo_grows hG1 (by omega) (by rw [e1]; exact t3) (by rw [e1, I_ne (by omega)]; exact t4) (hn k hk12) fin_1000 (fun τ g1 g2 g3 g4 => ?_)
    have f2 : Fp (InK (12 * p + k)) σ τ := f1.tr (g3.mono fun u j z => Or.inr (Or.inl z))
    refine kk τ (h.pe (f2.mono fun u j z => Or.inl (ink_in hk12 z)) g4 ?_ hp) (f2.mono fun u j z => by unfold InK RtP GrP at z; unfold TkM; omega)
    have := hs.sIn1 (o := none) (pe := FP.dadd (pPen (aPe a p) k) p1000) (d := dmpG (pDmp (aPe a p) k) (FP.dadd (pPen (aPe a p) k) p1000)) hk12 f2 ⟨by rw [g3.I (by unfold GrP; omega), e1]; exact I_same, (fun rt z => by cases z), g1, g2⟩
    unfold wdK
    rw [if_pos hso, if_pos hso]
    exact this
  · have hso := b2i_ne.mp hz
    have hnone : pInc (aPe a p) k = none := by
      cases hc : pInc (aPe a p) k with
      | none => rfl
      | some r => rw [hc] at hso; cases hso
    refine kk σ ?_ Fp.rf
    have e : wdK (aPe a p) k = sDmp (sPen (sInc (aPe a p) (upO (pInc (aPe a p)) k none)) (upO (pPen (aPe a p)) k (pPen (aPe a p) k))) (upO (pDmp (aPe a p)) k (pDmp (aPe a p) k)) := by
      unfold wdK
      have hn2 : ¬ (pInc (aPe a p) k).isSome = true := by rw [hso]; decide
      rw [if_neg hn2, if_neg hn2]
    rw [e]
    exact h.pe Fp.rf h.1 (hs.sIn1 hk12 Fp.rf ⟨by rw [t1, hso]; rfl, (fun rt z => by cases z), t3, t4⟩) hp
theorem P_Mo_announce {q : Int32 × Int32} {Q : rs_Mem → Prop} (h : MR μ σ a) (hp : p < 4) (hn : nnS (aPe a p)) (hn60 : n ≤ 60) (hW : ∀ k rt, pInc (aPe a p) k = some rt → pRole (aPe a p) = 0 → rtP rt = 100) (hM : MM σ p n m) (hP : PLc σ p m ps) (hV : VA m n ps) (h2 : 2 ∈ ps.map m) (h5 : pRole (aPe a p) ≠ 0 → 5 ∈ ps.map m) (hroom : q ∉ aPre a → (aPre a).length < 12)
    (kk : ∀ τ, MR μ τ (stPe (stPre a (anQ (rtI m ps (decide (pRole (aPe a p) ≠ 0))) (aPre a, aPe a p) q).1) p (anQ (rtI m ps (decide (pRole (aPe a p) ≠ 0))) (aPre a, aPe a p) q).2) → Fp TkM σ τ → Q τ) : F_Mo_announce NF 281 (nI p) q.1 q.2 σ Q := by
  have e12 : (12 : Int32) = nI 12 := by decide
  have i60 : (60 : Int32) = nI 60 := by decide
  obtain ⟨rt, hrt⟩ : ∃ rt, rt = rtI m ps (decide (pRole (aPe a p) ≠ 0)) := ⟨_, rfl⟩
  rw [← hrt] at kk
  -- behind the place: a' holds, the prefix is at k
  have main : ∀ τ b k, MR μ τ b → aPe b = aPe a → k < 12 → MM τ p n m → PLc τ p m ps → Fp TkM σ τ → (∀ ρ, MR μ ρ (stPe b p (anK (aPe b p) k rt)) → Fp TkM σ ρ → Q ρ) → ∀ x53 : Int32, x53 = ((12 : Int32) * nI p) + nI k → F_Mo_isInternal NF 281 (nI p) τ (fun x55 σ54 => (F_Mo_hand NF 281 x55 σ54 (fun σ56 => (vp_in x53 (NF (rs_R σ56 281 24)) ∧ (((rs_I σ56 (rs_R σ56 281 24) x53.toNatClampNeg) = 0 → (B_Mo_announce_52 NF Q 281 x53 σ56)) ∧ (¬ ((rs_I σ56 (rs_R σ56 281 24) x53.toNatClampNeg) = 0) → (F_Mo_same NF 281 x53 (60 : Int32) σ56 (fun x60 σ59 => ((¬ (x60 = 0) → (B_Mo_announce_52 NF Q 281 x53 σ59)) ∧ (x60 = 0 → (F_Mo_grows NF 281 x53 (4647503709213818880 : UInt64) σ59 (fun σ61 => (B_Mo_announce_52 NF Q 281 x53 σ61))))))))))))) := fun τ b k g1 hb hk12 hMt hPt ft fin x53 ex => by
    rw [e12, nI_mul, nI_add] at ex
    subst ex
    refine P_Mo_isInternal g1 hp ?_
    rw [hb]
    refine P_Mo_hand g1.1 hp hn60 hMt hPt hV h2 (fun z => h5 (of_decide_eq_true z)) (fun τ1 r1 r2 r3 => ?_)
    rw [← hrt] at r1
    have hs := g1.2.2.2 p hp
    rw [hb] at hs
    obtain ⟨t1, t2, t3, t4⟩ := hs.2.2.2.2.1 k hk12
    have hs1 : MPe τ1 p (aPe a p) := hs.fp r2 (fun u j z w => by
      have := r60_in w
      unfold InP at z; unfold ScP at this; omega)
    have ex : (!decide (pRole (aPe a p) ≠ 0)) = decide (pRole (aPe a p) = 0) := by
      by_cases e : pRole (aPe a p) = 0 <;> simp [e]
    rw [ex] at r1
    obtain ⟨u1, u2, u3, u4⟩ := hs1.2.2.2.2.1 k hk12
    have v61 : vp_in (nI (12 * p + k)) 61 := vpn (by omega) (by omega)
    have rP : pRole (aPe a p) = 0 → rtP rt = 100 := fun z => by
      rw [hrt]; unfold rtI; rw [if_neg (fun y => (of_decide_eq_true y) z)]; rfl
    have b52 : ∀ ρ, chg (pInc (aPe a p) k) rt = true → rs_D ρ 313 (12 * p + k) = FP.dadd (pPen (aPe a p) k) p500 → rs_I ρ 314 (12 * p + k) = b2i (dmpG (pDmp (aPe a p) k) (FP.dadd (pPen (aPe a p) k) p500)) → Fp (GrP (12 * p + k)) τ1 ρ → Gr ρ → B_Mo_announce_52 NF Q 281 (nI (12 * p + k)) ρ := fun ρ hc s1 s2 s3 s4 => by
      unfold B_Mo_announce_52
      rw [gr_281_24 s4, nf_303, nIc (by omega)]
      refine ⟨v61, fun σ5 e5 => ?_⟩
      have hG5 : Gr σ5 := e5 ▸ s4
      have f5 : Fp (fun u j => GrP (12 * p + k) u j ∨ (u = 303 ∧ j = 12 * p + k)) τ1 σ5 := by rw [e5]; exact (s3.mono fun u j z => Or.inl z).sI (Or.inr ⟨rfl, rfl⟩)
      rw [i60]
      refine P_Mo_copy hG5 (by omega) (r1.fp f5 (fun u q => by unfold GrP; omega) (fun j q1 q2 => by unfold GrP; omega) (fun j q1 q2 => by unfold GrP; omega)) (fun π p1 p2 p3 => ?_)
      have fI : Fp (InK (12 * p + k)) τ1 π := (f5.mono fun u j z => z.elim (fun y => Or.inr (Or.inl y)) (fun y => Or.inr (Or.inr y))).tr (p2.mono fun u j z => Or.inl z)
      refine fin π ?_ (ft.tr ((r2.mono fun u j z => by unfold RtP at z; unfold TkM; omega).tr (fI.mono fun u j z => by unfold InK RtP GrP at z; unfold TkM; omega)))
      rw [hb]
      refine g1.pe ((r2.mono fun u j z => Or.inr (r60_in z)).tr (fI.mono fun u j z => Or.inl (ink_in hk12 z))) p3 ?_ hp
      unfold anK
      rw [if_pos hc, if_pos hc]
      refine hs1.sIn1 hk12 fI ⟨?_, fun rt' z => ?_, ?_, ?_⟩
      · rw [p2.I (by unfold RtP; omega), e5]; exact I_same
      · cases z; exact p1
      · rw [p2.D (by unfold RtP; omega), e5]; exact s1
      · rw [p2.I (by unfold RtP; omega), e5, I_ne (by omega)]; exact s2
    have b52' : chg (pInc (aPe a p) k) rt = false → B_Mo_announce_52 NF Q 281 (nI (12 * p + k)) τ1 := fun hc => by
      have hc' : ¬ chg (pInc (aPe a p) k) rt = true := by rw [hc]; decide
      unfold B_Mo_announce_52
      rw [gr_281_24 r3, nf_303, nIc (by omega)]
      refine ⟨v61, fun σ5 e5 => ?_⟩
      have hG5 : Gr σ5 := e5 ▸ r3
      have f5 : Fp (fun u j => u = 303 ∧ j = 12 * p + k) τ1 σ5 := by rw [e5]; exact Fp.rf.sI ⟨rfl, rfl⟩
      rw [i60]
      refine P_Mo_copy hG5 (by omega) (r1.fp f5 (fun u q => by omega) (fun j q1 q2 => by omega) (fun j q1 q2 => by omega)) (fun π p1 p2 p3 => ?_)
      have fI : Fp (InK (12 * p + k)) τ1 π := (f5.mono fun u j z => Or.inr (Or.inr z)).tr (p2.mono fun u j z => Or.inl z)
      refine fin π ?_ (ft.tr ((r2.mono fun u j z => by unfold RtP at z; unfold TkM; omega).tr (fI.mono fun u j z => by unfold InK RtP GrP at z; unfold TkM; omega)))
      rw [hb]
      refine g1.pe ((r2.mono fun u j z => Or.inr (r60_in z)).tr (fI.mono fun u j z => Or.inl (ink_in hk12 z))) p3 ?_ hp
      unfold anK
      rw [if_neg hc', if_neg hc']
      refine hs1.sIn1 hk12 fI ⟨?_, fun rt' z => ?_, ?_, ?_⟩
      · rw [p2.I (by unfold RtP; omega), e5]; exact I_same
      · cases z; exact p1
      · rw [p2.D (by unfold RtP; omega), e5]; exact u3
      · rw [p2.I (by unfold RtP; omega), e5, I_ne (by omega)]; exact u4
    have nochg : ¬ ((pInc (aPe a p) k).isSome = true ∧ pInc (aPe a p) k ≠ some rt) → chg (pInc (aPe a p) k) rt = false := fun hc => by
      cases hb : chg (pInc (aPe a p) k) rt with
      | false => rfl
      | true => exact absurd (chg_iff.mp hb) hc
    rw [gr_281_24 r3, nf_303, nIc (by omega), u1]
    refine ⟨v61, fun hz => b52' (nochg (fun z => by rw [b2i_ne.mp hz] at z; cases z.1)), fun hz => ?_⟩
    obtain ⟨old, hold⟩ : ∃ old, pInc (aPe a p) k = some old := by
      cases hc : pInc (aPe a p) k with
      | none => rw [hc] at hz; exact absurd rfl hz
      | some old => exact ⟨old, rfl⟩
    rw [i60]
    refine P_Mo_same r3 (by omega) (u2 old hold) r1 (fun z => by
      have z := of_decide_eq_true z
      rw [hW k old hold z, rP z]) (fun he => v_f (by decide) (b52' (nochg (fun z => z.2 (by rw [hold, he]))))) (fun hne => v_t rfl ?_)
    exact P_Mo_grows r3 (by omega) u3 u4 (hn k hk12) fin_500 (fun ρ s1 s2 s3 s4 => b52 ρ (chg_iff.mpr ⟨by rw [hold]; rfl, by rw [hold]; exact fun z => hne (Option.some.inj z)⟩) s1 s2 s3 s4)
  have hl := h.2.1.2.1
  unfold F_Mo_announce
  refine P_Mo_learned h hroom (fun hm => ?_) (fun hm τ g1 g2 => ?_)
  · have hk := mem_lt hm
    refine main σ a _ h rfl (by omega) hM hP Fp.rf (fun ρ r1 r2 => kk ρ ?_ r2)
    unfold anQ
    rw [if_pos hm]
    exact r1
  · have hlt := hroom hm
    refine main τ _ (aPre a).length g1 rfl hlt (hM.fp g2 (fun j z => by omega)) (hP.fp g2 (fun j z => by omega)) (g2.mono fun u j z => by unfold TkM; omega) (fun ρ r1 r2 => kk ρ ?_ r2)
    unfold anQ
    rw [if_neg hm, if_pos hlt]
    exact r1
end MHA
