/-! the model: what is to be told -/
def okM (s : Ps) : Prop := (∃ n, n ≤ 3 ∧ pPad s = nI n) ∧ (pMl s = -1 ∨ isPfx (pMl s) (pMa s)) ∧ pId s ≠ -1 ∧ pNet s ≠ 0
def AW (a : Ab) : Prop := WF a ∧ ∀ p, p < 4 → okM (aPe a p)
def FpW : Nat → Nat → Prop := fun u _ => u = 317
def dI (d : Option (List Int32)) : Int32 := match d with
  | none => -1
  | some t => nI t.length
def WT (σ : rs_Mem) (d : Option (List Int32)) : Prop := ∀ t, d = some t → Ar σ 317 0 t
theorem Ar_nil {σ : rs_Mem} {v o : Nat} : Ar σ v o [] := fun _ h => absurd h (Nat.not_lt_zero _)
theorem Ar_eq {σ : rs_Mem} {v o : Nat} {l l' : List Int32} (h : Ar σ v o l) (e : l = l') : Ar σ v o l' := e ▸ h
section MD
variable {μ σ : rs_Mem} {a : Ab} {k w p : Nat}
theorem MR.fw {τ : rs_Mem} (h : MR μ σ a) (f : Fp FpW σ τ) (hG : Gr τ) : MR μ τ a := h.sc (f.mono fun u j q => by unfold FpW at q; unfold ScP; omega) hG
theorem P_Mo_want {m x : Int32} {l : List Int32} {Q : rs_Mem → Prop} (hG : Gr σ) (h : Ar σ 317 0 l) (hl : l.length < 40) (hm : m = nI l.length) (kk : ∀ τ, Ar τ 317 0 (l ++ [x]) → Fp FpW σ τ → Gr τ → Q τ) : F_Mo_want NF 281 m x σ Q := by
  subst hm
  unfold F_Mo_want
  rw [gr_281_38 hG, nf_317, nIc (by omega)]
  refine ⟨vpn hl (by omega), fun σ1 e1 => kk σ1 (fun j hj => ?_) (by rw [e1]; exact Fp.rf.sI rfl) (by rw [e1]; exact hG)⟩
  rw [List.length_append] at hj
  simp only [List.length_singleton] at hj
  rw [Nat.zero_add, e1]
  by_cases e : j = l.length
  · subst e; rw [I_same]; simp
  · rw [I_nk e, List.getElem_append_left (by omega)]; exact h.get0 (by omega)
theorem P_Mo_one {m x y : Int32} {q : Nat} {l : List Int32} {Q : Int32 → rs_Mem → Prop} (hG : Gr σ) (h : Ar σ 317 0 l) (hl : l.length + 3 ≤ 40) (hm : m = nI l.length) (hq : l.length + 3 = q) (kk : ∀ τ, Ar τ 317 0 (l ++ [x, 1, y]) → Fp FpW σ τ → Gr τ → Q (nI q) τ) : F_Mo_one NF 281 m x y σ Q := by
  have e2 : (2 : Int32) = nI 2 := by decide
  have e3 : (3 : Int32) = nI 3 := by decide
  refine P_Mo_want hG h (by omega) hm (fun τ1 g1 g2 g3 => ?_)
  refine P_Mo_want g3 g1 (by rw [List.length_append, List.length_singleton]; omega) (by rw [hm, nI_1, List.length_append, List.length_singleton]) (fun τ2 g4 g5 g6 => ?_)
  refine P_Mo_want g6 g4 (by rw [List.length_append, List.length_append, List.length_singleton, List.length_singleton]; omega) (by rw [hm, e2, nI_add, List.length_append, List.length_append, List.length_singleton, List.length_singleton]) (fun τ3 g7 g8 g9 => ?_)
  rw [hm, e3, nI_add, hq]
  exact kk τ3 (Ar_eq g7 (by simp)) ((g2.tr g5).tr g8) g9
theorem P_Mo_dueExternal {r n : Nat} {rt : Rt} {e : Bool} {Q : Int32 → rs_Mem → Prop} (h : MR μ σ a) (hp : p < 4) (hr : r < 60) (hm : MRt σ r rt e) (hn : n ≤ 3) (epad : pPad (aPe a p) = nI n)
    (k1 : (rtA rt).length + (1 + n) ≤ 8 → ∀ τ, Ar τ 317 0 (attO rt n) → Fp FpW σ τ → Gr τ → Q (nI (attO rt n).length) τ) (k0 : ¬ (rtA rt).length + (1 + n) ≤ 8 → Q (-1) σ) : F_Mo_dueExternal NF 281 (nI p) (nI r) σ Q := by
  have e2 : (2 : Int32) = nI 2 := by decide
  have e8 : (8 : Int32) = nI 8 := by decide
  obtain ⟨a1, a2, a3, -, -, -, -, -, -, a10, -⟩ := hm
  have cpad : rs_I σ 289 p = nI n := (h.2.2.2 p hp).1.2.2.2.2.2.2.2.1.trans epad
  unfold F_Mo_dueExternal
  rw [gr_281_26 h.1, nf_305, gr_281_8 h.1, nf_289, gr_281_25 h.1, nf_304, nIc (n := r) (by omega), nIc (n := p) (by omega), a1, a2, cpad]
  refine ⟨vpn (by omega) (by omega), vpn (by omega) (by omega), fun x ex => ?_⟩
  rw [nI_1, nI_add] at ex
  subst ex
  rw [e8, nIle (by omega) (by omega)]
  refine ⟨fun hle => ⟨vpn (by omega) (by omega), ?_⟩, fun hgt => k0 (by omega)⟩
  obtain ⟨L, hL⟩ : ∃ L, L = List.replicate (1 + n) 100 ++ rtA rt := ⟨_, rfl⟩
  have hLl : L.length = (rtA rt).length + 1 + n := by rw [hL, List.length_append, List.length_replicate]; omega
  obtain ⟨H, hH⟩ : ∃ H : List Int32, H = [1, 1, rtO rt, 2, nI ((rtA rt).length + 1 + n)] := ⟨_, rfl⟩
  have hHl : H.length = 5 := by rw [hH]; rfl
  have hatt : attO rt n = H ++ L ++ [3, 1, 7] := by
    rw [hH, hL]
    unfold attO
    have : 1 + n + (rtA rt).length = (rtA rt).length + 1 + n := by omega
    rw [this]; simp
  have key : ∀ d i τ, i + d = (rtA rt).length + 1 + n → Ar τ 317 0 (H ++ L.take i) → Fp FpW σ τ → Gr τ → L_Mo_dueExternal_57 NF Q (d + 1) 281 (nI p) (nI r) (nI ((rtA rt).length + 1 + n)) (nI 3) (nI i) τ := by
    intro d
    induction d with
    | zero =>
      intro i τ hi g1 g2 g3
      have e : i = (rtA rt).length + 1 + n := by omega
      subst e
      rw [List.take_of_length_le (by omega)] at g1
      have hlen : (H ++ L).length = 5 + ((rtA rt).length + 1 + n) := by rw [List.length_append, hHl, hLl]
      refine w_t ((nIle (by omega) (by omega)).mpr (by omega)) (P_Mo_one g3 g1 (by omega) (by rw [e2, nI_add, nI_add, hlen]) rfl (fun τ2 t1 t2 t3 => ?_))
      have := k1 (by omega) τ2 (by rw [hatt]; exact t1) (g2.tr t2) t3
      rw [hatt, List.length_append (as := H ++ L)] at this
      exact this
    | succ d ih =>
      intro i τ hi g1 g2 g3
      have hiL : i < L.length := by omega
      have htk : L.take (i + 1) = L.take i ++ [L[i]] := List.take_succ_eq_append_getElem hiL
      have hlen : (H ++ L.take i).length = 5 + i := by rw [List.length_append, hHl, List.length_take]; omega
      have step : ∀ y : Int32, y = L[i] → B_Mo_dueExternal_108 NF (L_Mo_dueExternal_57 NF Q (d + 1)) Q 281 (nI p) (nI r) (nI ((rtA rt).length + 1 + n)) (nI 3) (nI i) 281 ((nI 3 + 2) + nI i) y τ := fun y hy => by
        unfold B_Mo_dueExternal_108
        refine P_Mo_want g3 g1 (by omega) (by rw [e2, nI_add, nI_add, hlen]) (fun τ2 t1 t2 t3 z ez => ?_)
        subst ez
        rw [nI_1]
        refine ih (i + 1) τ2 (by omega) ?_ (g2.tr t2) t3
        rw [htk, ← hy]
        exact Ar_eq t1 (by simp)
      refine w_f (fun h => by have := (nIle (by omega) (by omega)).mp h; omega) ?_
      have e8 : (8 : Int32) = nI 8 := by decide
      rw [gr_281_8 g3, nf_289, gr_281_27 g3, nf_306, nIc (n := p) (by omega), g2.I (by unfold FpW; omega), cpad, nIlt (by omega) (by omega)]
      refine ⟨vpn (by omega) (by omega), fun hlt => ⟨vpn (by omega) (by omega), ?_⟩, fun hge => step 100 ?_⟩
      · have e1 : (1 : Int32) = nI 1 := by decide
        rw [e8, nI_mul, nI_add, e1, nIsub (by omega), nIsub (by omega), nIc (n := 8 * r + i - 1 - n) (by omega)]
        refine ⟨vpn (by omega) (by omega), ?_⟩
        rw [g2.I (by unfold FpW; omega)]
        refine step _ ?_
        have h3 := a3 (i - 1 - n) (by omega)
        rw [show 8 * r + i - 1 - n = 8 * r + (i - 1 - n) by omega, h3]
        subst hL
        rw [List.getElem_append_right (by rw [List.length_replicate]; omega)]
        congr 1
        rw [List.length_replicate]; omega
      · subst hL
        rw [List.getElem_append_left (by rw [List.length_replicate]; omega), List.getElem_replicate]
  refine P_Mo_one (q := 3) h.1 Ar_nil (by decide) (by decide) rfl (fun τ1 g1 g2 g3 => P_Mo_want g3 g1 (by simp) (by rfl) (fun τ2 g4 g5 g6 => P_Mo_want g6 g4 (by simp) (by rw [nI_1]; rfl) (fun τ3 g7 g8 g9 => ⟨_, key _ 0 τ3 (Nat.zero_add _) ?_ ((g2.tr g5).tr g8) g9⟩)))
  rw [List.take_zero, hH]
  exact Ar_eq g7 (by simp)
theorem mrW (h : MR μ σ a) (hW : WF a) (hk : k < 12) (hw : w < 5) (hC : C0 a k w = true) : (∃ e, MRt σ (12 * w + k) (rtW a w k) e) ∧ (rtS (rtW a w k) = 0 ∨ 0 < rtS (rtW a w k)) ∧ (rtM (rtW a w k) = -1 ∨ 0 ≤ rtM (rtW a w k)) := by
  obtain ⟨c, hc⟩ : ∃ c, cnd a k w = some c := by unfold C0 at hC; exact Option.isSome_iff_exists.mp hC
  have hr := cnd_route h hW hk hw hc
  have e : c.1 = rtW a w k := by
    unfold cnd at hc
    unfold rtW
    by_cases e4 : w = 4
    · rw [if_pos e4] at hc ⊢
      split at hc
      · cases hc; rfl
      · cases hc
    · rw [if_neg e4] at hc ⊢
      cases hi : pInc (aPe a w) k with
      | none => rw [hi] at hc; cases hc
      | some r =>
        rw [hi] at hc
        simp only at hc
        split at hc
        · cases hc
        · cases hc; rfl
  rw [e] at hr
  exact hr
theorem inW (hC : C0 a k w = true) (hw : w < 4) : pInc (aPe a w) k = some (rtW a w k) := by
  unfold C0 cnd at hC
  rw [if_neg (by omega)] at hC
  unfold rtW
  rw [if_neg (by omega)]
  cases hi : pInc (aPe a w) k with
  | none => rw [hi] at hC; cases hC
  | some r => rfl
theorem valW {Q : Int32 → rs_Mem → Prop} (h : MR μ σ a) (hW : WF a) (hk : k < (aPre a).length) (hw : w < 5) (hC : C0 a k w = true) (kk : Q (prW a w k) σ) : F_Mo_valued NF 281 (nI w) (nI k) σ Q := by
  have e4 : (4 : Int32) = nI 4 := by decide
  unfold prW at kk
  by_cases e : w = 4
  · subst e
    rw [if_pos rfl] at kk
    rw [← e4]
    exact P_Mo_valued4 kk
  · rw [if_neg e] at kk
    have hw4 : w < 4 := by omega
    have hi := inW hC hw4
    exact P_Mo_valued h hw4 hk (hW.2 w hw4).1 hW.1 hi ((hW.2 w hw4).2 k _ hi).2.2 kk
theorem P_Mo_dueInternal {Q : Int32 → rs_Mem → Prop} (h : MR μ σ a) (hA : AW a) (hk : k < (aPre a).length) (hw : w < 5) (hC : C0 a k w = true)
    (k1 : (idW a w = -1 ∨ (rtC (rtW a w k)).length + 1 ≤ 6) → ∀ τ, Ar τ 317 0 (attI (rtW a w k) (prW a w k) (idW a w)) → Fp FpW σ τ → Gr τ → Q (nI (attI (rtW a w k) (prW a w k) (idW a w)).length) τ)
    (k0 : ¬ (idW a w = -1 ∨ (rtC (rtW a w k)).length + 1 ≤ 6) → Q (-1) σ) : F_Mo_dueInternal NF 281 (nI w) (nI k) σ Q := by
  have hk12 : k < 12 := by have := h.2.1.2.1; omega
  have e2 : (2 : Int32) = nI 2 := by decide
  have e3 : (3 : Int32) = nI 3 := by decide
  have e4 : (4 : Int32) = nI 4 := by decide
  have e6 : (6 : Int32) = nI 6 := by decide
  have e8 : (8 : Int32) = nI 8 := by decide
  have e12 : (12 : Int32) = nI 12 := by decide
  obtain ⟨⟨ex, hrt⟩, hs, hmm⟩ := mrW h hA.1 hk12 hw hC
  have hval : ∀ (τ : rs_Mem) (Q2 : Int32 → rs_Mem → Prop), MR μ τ a → Q2 (prW a w k) τ → F_Mo_valued NF 281 (nI w) (nI k) τ Q2 := fun τ Q2 g q => valW g hA.1 hk hw hC q
  generalize hR : rtW a w k = rt at *
  generalize hP : prW a w k = pr at *
  obtain ⟨a1, a2, a3, a4, a5, a6, a7, a8, a9, a10, a11⟩ := hrt
  obtain ⟨r, hr⟩ : ∃ r, r = 12 * w + k := ⟨_, rfl⟩
  rw [← hr] at a1 a2 a3 a4 a5 a6 a7 a8 a9
  have hr60 : r < 60 := by omega
  have vr : vp_in (nI r) 61 := vpn (by omega) (by omega)
  have main : ∀ rf : Bool, (rf = false ↔ idW a w = -1) → (idW a w = -1 ∨ (rtC rt).length + 1 ≤ 6) → B_Mo_dueInternal_47 NF Q 281 (nI w) (nI k) (nI r) (b2i rf) σ := fun rf hrf hok => by
    have kk := k1 hok
    obtain ⟨M, hM⟩ : ∃ M : List Int32, M = (if rtM rt = -1 then [] else [4, 1, rtM rt]) := ⟨_, rfl⟩
    have hMl : M.length ≤ 3 := by rw [hM]; split <;> simp
    obtain ⟨H, hH⟩ : ∃ H : List Int32, H = [1, 1, rtO rt, 2, nI (rtA rt).length] := ⟨_, rfl⟩
    have hHl : H.length = 5 := by rw [hH]; rfl
    -- behind the metric
    have b173 : ∀ τ x5, Ar τ 317 0 (H ++ rtA rt ++ [3, 1, rtN rt] ++ M) → x5 = nI (H ++ rtA rt ++ [3, 1, rtN rt] ++ M).length → Fp FpW σ τ → Gr τ → B_Mo_dueInternal_173 NF Q 281 (nI w) (nI k) (nI r) (b2i rf) x5 τ := fun τ x5 g1 hx5 g2 g3 => by
      unfold B_Mo_dueInternal_173
      have hlen : (H ++ rtA rt ++ [3, 1, rtN rt] ++ M).length = 8 + (rtA rt).length + M.length := by
        simp only [List.length_append, hHl, List.length_cons, List.length_nil]; omega
      refine hval τ _ (h.fw g2 g3) (P_Mo_one g3 g1 (by omega) hx5 rfl (fun τ1 t1 t2 t3 => ?_))
      have f1 := g2.tr t2
      have hlen1 : (H ++ rtA rt ++ [3, 1, rtN rt] ++ M ++ [5, 1, pr]).length = 11 + (rtA rt).length + M.length := by
        rw [List.length_append, hlen]; simp; omega
      cases rf with
      | false =>
        have hid := hrf.mp rfl
        refine v_t rfl ?_
        have hatt : attI rt pr (idW a w) = H ++ rtA rt ++ [3, 1, rtN rt] ++ M ++ [5, 1, pr] := by
          unfold attI; rw [if_pos hid, hH, hM]; simp
        have := kk τ1 (by rw [hatt]; exact t1) f1 t3
        rw [hatt, List.length_append (as := H ++ rtA rt ++ [3, 1, rtN rt] ++ M)] at this
        exact this
      | true =>
        have hid : ¬ idW a w = -1 := fun z => by have := hrf.mpr z; cases this
        have hl6 : (rtC rt).length + 1 ≤ 6 := hok.resolve_left hid
        have hw4 : w < 4 := by
          by_cases e : w = 4
          · exact absurd (by unfold idW; rw [if_pos e]) hid
          · omega
        have hidp : idW a w = pId (aPe a w) := by
          unfold idW at hid ⊢
          rw [if_neg (by omega)] at hid ⊢
          by_cases e : pRole (aPe a w) = 0
          · rw [if_pos e] at hid; exact absurd rfl hid
          · rw [if_neg e]
        have hatt : attI rt pr (idW a w) = H ++ rtA rt ++ [3, 1, rtN rt] ++ M ++ [5, 1, pr] ++ [9, 1, rSrc rt (idW a w)] ++ [10] ++ [nI (1 + (rtC rt).length)] ++ [7] ++ rtC rt := by
          unfold attI; rw [if_neg hid, hH, hM]; simp
        have b225 : ∀ y : Int32, y = rSrc rt (idW a w) → B_Mo_dueInternal_225 NF Q 281 (nI r) 281 (nI ((H ++ rtA rt ++ [3, 1, rtN rt] ++ M).length + 3)) 9 y τ1 := fun y hy => by
          subst hy
          unfold B_Mo_dueInternal_225
          have hl9 : (H ++ rtA rt ++ [3, 1, rtN rt] ++ M ++ [5, 1, pr]).length + 3 = 14 + (rtA rt).length + M.length := by omega
          refine P_Mo_one t3 t1 (by omega) (by rw [hlen1, hlen]; congr 1; omega) hl9 (fun τ2 u1 u2 u3 => ?_)
          have hu1 : (H ++ rtA rt ++ [3, 1, rtN rt] ++ M ++ [5, 1, pr] ++ [9, 1, rSrc rt (idW a w)]).length = 14 + (rtA rt).length + M.length := by
            rw [List.length_append, hlen1]; simp; omega
          refine P_Mo_want u3 u1 (by omega) (by rw [hu1]) (fun τ3 u4 u5 u6 => ?_)
          have hu4 : (H ++ rtA rt ++ [3, 1, rtN rt] ++ M ++ [5, 1, pr] ++ [9, 1, rSrc rt (idW a w)] ++ [10]).length = 14 + (rtA rt).length + M.length + 1 := by
            rw [List.length_append, hu1]; rfl
          have f3 := (f1.tr u2).tr u5
          rw [gr_281_32 u6, nf_311, nIc (n := r) (by omega), f3.I (by unfold FpW; omega), a8, nI_1, nI_1]
          refine ⟨vr, P_Mo_want u6 u4 (by omega) (by rw [hu4]) (fun τ4 u7 u8 u9 => ?_)⟩
          have hu7 : (H ++ rtA rt ++ [3, 1, rtN rt] ++ M ++ [5, 1, pr] ++ [9, 1, rSrc rt (idW a w)] ++ [10] ++ [nI ((rtC rt).length + 1)]).length = 14 + (rtA rt).length + M.length + 2 := by
            rw [List.length_append, hu4]; rfl
          refine P_Mo_want u9 u7 (by omega) (by rw [hu7, e2, nI_add]) (fun τ5 w1 w2 w3 => ?_)
          have f5 := (f3.tr u8).tr w2
          obtain ⟨B, hB⟩ : ∃ B : List Int32, B = H ++ rtA rt ++ [3, 1, rtN rt] ++ M ++ [5, 1, pr] ++ [9, 1, rSrc rt (idW a w)] ++ [10] ++ [nI ((rtC rt).length + 1)] ++ [7] := ⟨_, rfl⟩
          have hBl : B.length = 14 + (rtA rt).length + M.length + 3 := by rw [hB, List.length_append, hu7]; rfl
          have hatt2 : attI rt pr (idW a w) = B ++ rtC rt := by
            rw [hatt, hB, Nat.add_comm 1 (rtC rt).length]
          rw [← hB] at w1
          have key : ∀ d i τ, i + d = (rtC rt).length → Ar τ 317 0 (B ++ (rtC rt).take i) → Fp FpW σ τ → Gr τ → L_Mo_dueInternal_267 NF Q (d + 1) 281 (nI r) (nI (14 + (rtA rt).length + M.length)) (nI i) τ := by
            intro d
            induction d with
            | zero =>
              intro i τ hi g1 g2 g3
              have e : i = (rtC rt).length := by omega
              subst e
              rw [List.take_length] at g1
              have hlen2 : (B ++ rtC rt).length = 14 + (rtA rt).length + M.length + 3 + (rtC rt).length := by rw [List.length_append, hBl]
              refine ⟨by rw [gr_281_32 g3, nf_311]; exact vr, w_t ?_ ⟨by rw [gr_281_32 g3, nf_311]; exact vr, ?_⟩⟩
              · rw [gr_281_32 g3, nIc (n := r) (by omega), g2.I (by unfold FpW; omega), a8]; exact (nIle (by omega) (by omega)).mpr (by omega)
              · rw [gr_281_32 g3, nIc (n := r) (by omega), g2.I (by unfold FpW; omega), a8, e3, nI_add, nI_add]
                have := kk τ (by rw [hatt2]; exact g1) g2 g3
                rw [hatt2, hlen2] at this
                exact this
            | succ d ih =>
              intro i τ hi g1 g2 g3
              have htk : (rtC rt).take (i + 1) = (rtC rt).take i ++ [(rtC rt)[i]'(by omega)] := List.take_succ_eq_append_getElem (by omega)
              have hlen2 : (B ++ (rtC rt).take i).length = 14 + (rtA rt).length + M.length + 3 + i := by rw [List.length_append, hBl, List.length_take]; omega
              refine ⟨by rw [gr_281_32 g3, nf_311]; exact vr, w_f (fun z => ?_) ?_⟩
              · rw [gr_281_32 g3, nIc (n := r) (by omega), g2.I (by unfold FpW; omega), a8] at z
                have := (nIle (by omega) (by omega)).mp z; omega
              rw [gr_281_33 g3, nf_312, e6, nI_mul, nI_add, nIc (n := 6 * r + i) (by omega), g2.I (by unfold FpW; omega), a9 i (by omega)]
              refine ⟨vpn (by omega) (by omega), P_Mo_want g3 g1 (by omega) (by rw [e3, nI_add, nI_add, hlen2]) (fun τ2 t1 t2 t3 z ez => ?_)⟩
              subst ez
              rw [nI_1]
              refine ih (i + 1) τ2 (by omega) ?_ (g2.tr t2) t3
              rw [htk]
              exact Ar_eq t1 (by simp)
          exact ⟨_, key (rtC rt).length 0 τ5 (by omega) (by rw [List.take_zero, List.append_nil]; exact w1) f5 w3⟩
        refine v_f (by decide) ?_
        rw [gr_281_31 t3, nf_310, nIc (n := r) (by omega), f1.I (by unfold FpW; omega), a7, gr_281_7 t3, nf_288, nIc (n := w) (by omega), f1.I (by unfold FpW; omega), (h.2.2.2 w hw4).1.2.2.2.2.2.2.1]
        refine ⟨vr, fun hle => ⟨vpn hw4 (by omega), b225 _ ?_⟩, fun hgt => ⟨vr, b225 _ ?_⟩⟩
        · have hz : rtS rt = 0 := hs.elim id (fun z => by grind)
          unfold rSrc; rw [if_pos hz, hidp]
        · have hz : ¬ rtS rt = 0 := fun z => hgt (by rw [z]; decide)
          unfold rSrc; rw [if_neg hz]
    have key : ∀ d i τ, i + d = (rtA rt).length → Ar τ 317 0 (H ++ (rtA rt).take i) → Fp FpW σ τ → Gr τ → L_Mo_dueInternal_85 NF Q (d + 1) 281 (nI w) (nI k) (nI r) (b2i rf) (nI 3) (nI i) τ := by
      intro d
      induction d with
      | zero =>
        intro i τ hi g1 g2 g3
        have e : i = (rtA rt).length := by omega
        subst e
        rw [List.take_length] at g1
        have hlen2 : (H ++ rtA rt).length = 5 + (rtA rt).length := by rw [List.length_append, hHl]
        have hpl : rs_I τ 305 r = nI (rtA rt).length := (g2.I (by unfold FpW; omega)).trans a2
        refine ⟨by rw [gr_281_26 g3, nf_305]; exact vr, w_t ?_ ⟨by rw [gr_281_26 g3, nf_305]; exact vr, by rw [gr_281_28 g3, nf_307]; exact vr, ?_⟩⟩
        · rw [gr_281_26 g3, nIc (n := r) (by omega), hpl]; exact (nIle (by omega) (by omega)).mpr (by omega)
        rw [gr_281_26 g3, nIc (n := r) (by omega), hpl, gr_281_28 g3, g2.I (u := 307) (by unfold FpW; omega), a4]
        refine P_Mo_one g3 g1 (by omega) (by rw [e2, nI_add, nI_add, hlen2]) rfl (fun τ2 t1 t2 t3 => ?_)
        have f2 := g2.tr t2
        rw [gr_281_29 t3, nf_308, f2.I (by unfold FpW; omega), a5]
        have hlen3 : (H ++ rtA rt ++ [3, 1, rtN rt]).length = 8 + (rtA rt).length := by rw [List.length_append, hlen2]; simp; omega
        refine ⟨vr, fun hneg => ?_, fun hpos => ⟨vr, ?_⟩⟩
        · have hz : rtM rt = -1 := hmm.elim id (fun z => by grind)
          have hM0 : M = [] := by rw [hM, if_pos hz]
          refine b173 τ2 _ ?_ ?_ f2 t3
          · rw [hM0, List.append_nil]; exact t1
          · rw [hM0, List.append_nil, hlen3, hlen2]; congr 1; omega
        · have hz : ¬ rtM rt = -1 := fun z => hpos (by rw [z]; decide)
          have hM0 : M = [4, 1, rtM rt] := by rw [hM, if_neg hz]
          refine P_Mo_one t3 t1 (by omega) (by rw [hlen3, hlen2]; congr 1; omega) rfl (fun τ3 t4 t5 t6 => b173 τ3 _ ?_ ?_ (f2.tr t5) t6)
          · rw [hM0]; exact t4
          · rw [hM0, List.length_append (as := H ++ rtA rt ++ [3, 1, rtN rt])]; rfl
      | succ d ih =>
        intro i τ hi g1 g2 g3
        have htk : (rtA rt).take (i + 1) = (rtA rt).take i ++ [(rtA rt)[i]'(by omega)] := List.take_succ_eq_append_getElem (by omega)
        have hlen2 : (H ++ (rtA rt).take i).length = 5 + i := by rw [List.length_append, hHl, List.length_take]; omega
        have hpl : rs_I τ 305 r = nI (rtA rt).length := (g2.I (by unfold FpW; omega)).trans a2
        refine ⟨by rw [gr_281_26 g3, nf_305]; exact vr, w_f (fun z => ?_) ?_⟩
        · rw [gr_281_26 g3, nIc (n := r) (by omega), hpl] at z
          have := (nIle (by omega) (by omega)).mp z; omega
        rw [gr_281_27 g3, nf_306, e8, nI_mul, nI_add, nIc (n := 8 * r + i) (by omega), g2.I (by unfold FpW; omega), a3 i (by omega)]
        refine ⟨vpn (by omega) (by omega), P_Mo_want g3 g1 (by omega) (by rw [e2, nI_add, nI_add, hlen2]) (fun τ2 t1 t2 t3 z ez => ?_)⟩
        subst ez
        rw [nI_1]
        refine ih (i + 1) τ2 (by omega) ?_ (g2.tr t2) t3
        rw [htk]
        exact Ar_eq t1 (by simp)
    unfold B_Mo_dueInternal_47
    rw [gr_281_25 h.1, nf_304, nIc (n := r) (by omega), a1]
    refine ⟨vr, P_Mo_one (q := 3) h.1 Ar_nil (by decide) (by decide) rfl (fun τ1 g1 g2 g3 => P_Mo_want g3 g1 (by simp) (by rfl) (fun τ2 g4 g5 g6 => ?_))⟩
    rw [gr_281_26 g6, nf_305, (g2.tr g5).I (by unfold FpW; omega), a2]
    refine ⟨vr, P_Mo_want g6 g4 (by simp) (by rw [nI_1]; rfl) (fun τ3 g7 g8 g9 => ⟨_, key _ 0 τ3 (Nat.zero_add _) ?_ ((g2.tr g5).tr g8) g9⟩)⟩
    rw [List.take_zero, hH]
    exact Ar_eq g7 (by simp)
  have b24 : idW a w = -1 → B_Mo_dueInternal_24 NF Q 281 (nI w) (nI k) (nI r) σ := fun hid => by
    unfold B_Mo_dueInternal_24 B_Mo_dueInternal_25
    exact w_t rfl (main false ⟨fun _ => hid, fun _ => rfl⟩ (Or.inl hid))
  intro x ex
  rw [e12, nI_mul, nI_add, ← hr] at ex
  subst ex
  rw [e4, nIle (by omega) (by omega)]
  refine ⟨fun h4 => b24 (by unfold idW; rw [if_pos (by omega)]), fun h4 => P_Mo_isInternal h (by omega) ⟨fun hz => b24 ?_, fun hz => ?_⟩⟩
  · have hz : pRole (aPe a w) = 0 := Classical.not_not.mp (of_decide_eq_false (b2i_ne.mp hz))
    unfold idW; rw [if_neg (by omega), if_pos hz]
  · have hz2 : ¬ pRole (aPe a w) = 0 := fun e => hz (by rw [decide_eq_false (fun n => n e)]; rfl)
    have hid : ¬ idW a w = -1 := by
      unfold idW; rw [if_neg (by omega), if_neg hz2]; exact (hA.2 w (by omega)).2.2.1
    unfold B_Mo_dueInternal_25
    refine w_f (by decide) ?_
    rw [gr_281_32 h.1, nf_311, nIc (n := r) (by omega), a8, nI_1, e6, nIle (by omega) (by omega)]
    exact ⟨vr, fun hl => main true ⟨(fun z => by cases z), fun z => absurd z hid⟩ (Or.inr hl), fun hl => k0 (fun z => z.elim hid hl)⟩
theorem P_Mo_due {Q : Int32 → rs_Mem → Prop} (h : MR μ σ a) (hA : AW a) (hp : p < 4) (hk : k < (aPre a).length) (hup : pSt (aPe a p) = 3)
    (kk : ∀ τ, MR μ τ a → Fp ScP σ τ → WT τ (dueA a p k) → (∀ t, dueA a p k = some t → t.length ≤ 33) → Q (dI (dueA a p k)) τ) : F_Mo_due NF 281 (nI p) (nI k) σ Q := by
  have hk12 : k < 12 := by have := h.2.1.2.1; omega
  have e4 : (4 : Int32) = nI 4 := by decide
  have e12 : (12 : Int32) = nI 12 := by decide
  unfold F_Mo_due
  rw [gr_281_3 h.1, nf_284, nIc (by omega), (h.2.2.2 p hp).1.2.2.1, hup]
  refine ⟨vpn hp (by omega), v_t rfl (P_Mo_bestOf h hA.1 hk (fun τ g1 g2 => ?_))⟩
  have g2s : Fp ScP σ τ := g2.mono fun u j q => by unfold FpC at q; unfold ScP; omega
  have none0 : dueA a p k = none → Q (-1) τ := fun hd => by
    have := kk τ g1 g2s (fun t ht => by rw [hd] at ht; cases ht) (fun t ht => by rw [hd] at ht; cases ht)
    rw [hd] at this
    exact this
  cases hb : bestO a k with
  | none =>
    have hd : dueA a p k = none := by unfold dueA; rw [hb]
    exact w_t (by decide) (none0 hd)
  | some w =>
    obtain ⟨hw, hC⟩ := bestO_some hb
    have hd : dueA a p k = dueW a p k w := by unfold dueA; rw [hb]
    have nomeant : ¬ meant a p k w → Q (-1) τ := fun hm => none0 (by rw [hd]; unfold dueW; rw [if_neg hm])
    have eo : oI (some w) = nI w := rfl
    rw [eo]
    have b97 : meant a p k w → B_Mo_due_97 NF Q 281 (nI p) (nI k) (nI w) τ := fun hm => by
      have hd2 := hd
      unfold dueW at hd2
      rw [if_pos hm] at hd2
      unfold B_Mo_due_97
      obtain ⟨⟨ex, hrt⟩, hs, hmm⟩ := mrW g1 hA.1 hk12 hw hC
      have l1 := hrt.2.2.2.2.2.2.2.2.2.1
      refine P_Mo_isInternal g1 hp ⟨fun hz => ?_, fun hz => ?_⟩
      · have hz : pRole (aPe a p) = 0 := Classical.not_not.mp (of_decide_eq_false (b2i_ne.mp hz))
        rw [if_pos hz] at hd2
        obtain ⟨n, hn, epad⟩ := (hA.2 p hp).1
        have epn : (pPad (aPe a p)).toNatClampNeg = n := by rw [epad]; exact nIc (by omega)
        rw [epn] at hd2
        rw [e12, nI_mul, nI_add]
        refine P_Mo_dueExternal g1 hp (by omega) hrt hn epad (fun hc τ2 t1 t2 t3 => ?_) (fun hc => ?_)
        · rw [if_pos hc] at hd2
          have t2s : Fp ScP τ τ2 := t2.mono fun u j q => by unfold FpW at q; unfold ScP; omega
          have := kk τ2 (g1.fw t2 t3) (g2s.tr t2s) (fun t ht => by rw [hd2] at ht; cases ht; exact t1) (fun t ht => by rw [hd2] at ht; cases ht; exact attO_len hc)
          rw [hd2] at this
          exact this
        · rw [if_neg hc] at hd2
          exact none0 hd2
      · have hz2 : ¬ pRole (aPe a p) = 0 := fun e => hz (by rw [decide_eq_false (fun n => n e)]; rfl)
        rw [if_neg hz2] at hd2
        refine P_Mo_dueInternal g1 hA hk hw hC (fun hc τ2 t1 t2 t3 => ?_) (fun hc => ?_)
        · rw [if_pos hc] at hd2
          have t2s : Fp ScP τ τ2 := t2.mono fun u j q => by unfold FpW at q; unfold ScP; omega
          have := kk τ2 (g1.fw t2 t3) (g2s.tr t2s) (fun t ht => by rw [hd2] at ht; cases ht; exact t1) (fun t ht => by rw [hd2] at ht; cases ht; exact attI_len l1 hc)
          rw [hd2] at this
          exact this
        · rw [if_neg hc] at hd2
          exact none0 hd2
    have b56 : w ≠ p → ¬ (w ≠ 4 ∧ pRole (aPe a w) = 2 ∧ pRole (aPe a p) = 2) → B_Mo_due_56 NF Q 281 (nI p) (nI k) (nI w) τ := fun h1 h2 => by
      have hcf := (g1.2.2.2 p hp).1
      have hq := wfP_at hA.1.1 hk
      unfold B_Mo_due_56
      rw [gr_281_9 g1.1, nf_290, gr_281_22 g1.1, gr_281_23 g1.1, nf_301, nf_302, gr_281_10 g1.1, nf_291, nIc (n := p) (by omega), nIc (n := k) (by omega), hcf.2.2.2.2.2.2.2.2.1, hcf.2.2.2.2.2.2.2.2.2, (g1.prx_at hk).1, (g1.prx_at hk).2]
      refine ⟨vpn hp (by omega), fun hneg => b97 ⟨h1, h2, fun z => ?_⟩, fun hpos => ⟨vpn hk12 (by omega), vpn hk12 (by omega), vpn hp (by omega), vpn hp (by omega), ?_⟩⟩
      · rcases (hA.2 p hp).2.1 with q | q
        · exact z.1 q
        · have := q.1; grind
      · have hpf : isPfx (pMl (aPe a p)) (pMa (aPe a p)) := (hA.2 p hp).2.1.resolve_left (fun q => hpos (by rw [q]; decide))
        have hne : pMl (aPe a p) ≠ -1 := fun q => hpos (by rw [q]; decide)
        exact P_Mo_isWithin hpf hq.2.2.1 hq.2.2.2.1 (fun q => w_f (by decide) (nomeant (fun z => z.2.2 ⟨hne, q⟩))) (fun q => w_t rfl (b97 ⟨h1, h2, fun z => q z.2⟩))
    have h0 : ¬ nI w < 0 := nI_pos (by omega)
    refine w_f h0 ⟨fun hpe => nomeant (fun z => z.1 ?_), fun hne => ?_⟩
    · rw [nIeq (by omega) (by omega)] at hpe; exact hpe
    · have hwp : w ≠ p := fun e => hne (by rw [e])
      rw [e4, nIle (by omega) (by omega)]
      refine ⟨fun h4 => b56 hwp (fun z => z.1 (by omega)), fun h4 => ?_⟩
      rw [gr_281_1 g1.1, nf_282, nIc (n := w) (by omega), nIc (n := p) (by omega), (g1.2.2.2 w (by omega)).1.1, (g1.2.2.2 p hp).1.1]
      exact ⟨vpn (by omega) (by omega), fun hr => b56 hwp (fun z => hr z.2.1), fun hr => ⟨vpn hp (by omega), fun hr2 => b56 hwp (fun z => hr2 z.2.2), fun hr2 => nomeant (fun z => z.2.1 ⟨by omega, hr, hr2⟩)⟩⟩
end MD
