/-! the model: attributes tested, a route made of them -/
section MA
variable {μ σ : rs_Mem} {a : Ab} {p n : Nat} {m : Nat → Nat} {ps : List Nat}
theorem MM.at' {j x : Nat} (h : MM σ p n m) (hj : j < n) (hx : x = 60 * p + j) : rs_I σ 296 x = nI (m j) := by subst hx; exact (h j hj).1
theorem PLc.add {dn : List Nat} {i : Nat} (h : PLc σ p m dn) (hn : m i ∉ dn.map m) (hx : ¬ isNm (m i)) : PLc σ p m (dn ++ [i]) := fun x hx11 => by
  rw [h x hx11]
  by_cases e : isNm x
  · rw [if_pos e, if_pos e, fnd1_app hn, if_neg (fun q => hx (by rw [q]; exact e))]
  · rw [if_neg e, if_neg e]
theorem PLc.put {dn : List Nat} {i : Nat} {τ : rs_Mem} (h : PLc σ p m dn) (hn : m i ∉ dn.map m) (hx : isNm (m i)) (e : τ = rs_sI σ 318 (m i) (nI (60 * p + i + 1))) : PLc τ p m (dn ++ [i]) := fun x hx11 => by
  subst e
  by_cases ex : x = m i
  · subst ex
    rw [I_same, if_pos hx, fnd1_app hn, if_pos rfl]
  · rw [I_nk ex, h x hx11]
    by_cases e : isNm x
    · rw [if_pos e, if_pos e, fnd1_app hn, if_neg (fun q => ex q.symm)]
    · rw [if_neg e, if_neg e]
theorem P_Mo_badAttributes {Q : Int32 → rs_Mem → Prop} (hG : Gr σ) (hp : p < 4) (hn60 : n ≤ 60) (hM : MM σ p n m) (hto : toU m ≤ n)
    (k1 : psU m = none → ∀ τ, Fp FpL σ τ → Gr τ → Q 1 τ) (k2 : ∀ ps, psU m = some ps → ∀ τ, (attF m [] ps = 0 → PLc τ p m ps) → Fp FpL σ τ → Gr τ → Q (attF m [] ps) τ) :
    F_Mo_badAttributes NF 281 (nI (60 * p + frU m)) (nI (60 * p + toU m)) σ Q := by
  have i2 : (2 : Int32) = nI 2 := by decide
  have i11 : (11 : Int32) = nI 11 := by decide
  have i128 : (128 : Int32) = nI 128 := by decide
  have hfr : frU m ≤ toU m := by unfold toU; omega
  have hfr4 : 4 ≤ frU m := by unfold frU cnU; omega
  have mm : ∀ {τ}, Fp FpL σ τ → MM τ p n m := fun f => hM.fp f (fun j q => by unfold FpL at q; omega)
  have att : ∀ (F : Int32) (psA : List Nat), (∀ τ, (F = 0 → PLc τ p m psA) → Fp FpL σ τ → Gr τ → Q F τ) → ∀ f i ps dn τ, tlv m f i (toU m) = some ps → seg m (frU m) dn i → attF m dn ps = F → dn ++ ps = psA → PLc τ p m dn → Fp FpL σ τ → Gr τ → i ≤ toU m →
      L_Mo_badAttributes_72 NF Q (f + 1) 281 (nI (60 * p + frU m)) (nI (60 * p + toU m)) (nI (60 * p + i)) τ := by
    intro F psA hB f
    induction f with
    | zero => intro i ps dn τ h; cases h
    | succ f ih =>
      intro i ps dn τ ht hseg hF hA hP hf hGt hie
      have hMt := mm hf
      unfold tlv at ht
      by_cases hi : i = toU m
      · rw [if_pos hi] at ht
        have e := (Option.some.inj ht).symm
        subst e
        have e0 : F = 0 := hF.symm
        subst e0
        rw [List.append_nil] at hA
        subst hA
        exact w_t ((nIle (by omega) (by omega)).mpr (by omega)) (hB τ (fun _ => hP) hf hGt)
      · rw [if_neg hi] at ht
        by_cases hl : i + 2 + m (i + 1) ≤ toU m
        · rw [if_pos hl] at ht
          cases htt : tlv m f (i + 2 + m (i + 1)) (toU m) with
          | none => rw [htt] at ht; cases ht
          | some t =>
            rw [htt] at ht
            have e : ps = i :: t := (Option.some.inj ht).symm
            subst e
            have hF2 : (if attFlt m dn i ≠ 0 then attFlt m dn i else attF m (dn ++ [i]) t) = F := hF
            have hx := (hM i (by omega)).2
            have hLb := (hM (i + 1) (by omega)).2
            have bad : attFlt m dn i ≠ 0 → ∀ ρ, Fp FpL σ ρ → Gr ρ → Q (attFlt m dn i) ρ := fun h0 ρ r1 r2 => by
              rw [if_pos h0] at hF2
              rw [hF2]
              exact hB ρ (fun z => absurd (hF2.trans z) h0) r1 r2
            have next : ∀ ρ, attFlt m dn i = 0 → PLc ρ p m (dn ++ [i]) → Fp FpL σ ρ → Gr ρ → B_Mo_badAttributes_208 NF (L_Mo_badAttributes_72 NF Q (f + 1)) Q 281 (nI (60 * p + frU m)) (nI (60 * p + toU m)) (nI (60 * p + i)) ρ := fun ρ h0 r1 r2 r3 => by
              unfold B_Mo_badAttributes_208
              rw [if_neg (fun z => z h0)] at hF2
              rw [gr_281_15 r3, nf_296, nI_1, nIc (n := 60 * p + i + 1) (by omega), (mm r2).at' (j := i + 1) (by omega) (by omega), i2, nI_add, nI_add]
              refine ⟨vpn (by omega) (by omega), fun x ex => ?_⟩
              subst ex
              rw [show 60 * p + i + 2 + m (i + 1) = 60 * p + (i + 2 + m (i + 1)) by omega]
              exact ih (i + 2 + m (i + 1)) t (dn ++ [i]) ρ htt (seg_snoc dn _ _ hseg) hF2 (by rw [← hA]; simp) r1 r2 r3 hl
            have b148 : m i ∉ dn.map m → (128 ≤ m i ∨ isNm (m i)) → B_Mo_badAttributes_148 NF (L_Mo_badAttributes_72 NF Q (f + 1)) Q 281 (nI (60 * p + frU m)) (nI (60 * p + toU m)) (nI (60 * p + i)) (nI (m i)) τ := fun hnin hor => by
              unfold B_Mo_badAttributes_148
              refine P_Mo_isName (by omega) (fun hnm => w_f (by decide) ?_) (fun hnm => w_t rfl ?_)
              · have ea : attFlt m dn i = badV m i := by
                  unfold attFlt; rw [if_neg hnin, if_neg (by unfold isNm at hnm; omega), if_neg (fun z => z hnm)]
                rw [gr_281_15 hGt, nf_296, nI_1, nIc (n := 60 * p + i + 1) (by omega), hMt.at' (j := i + 1) (by omega) (by omega), i2, nI_add]
                refine ⟨vpn (by omega) (by omega), P_Mo_badValue hGt hp hn60 hMt (by omega) hnm ?_⟩
                unfold B_Mo_badAttributes_179
                refine ⟨fun hle => ?_, fun hgt => ?_⟩
                · have h0 : badV m i = 0 := badV_nn.elim id (fun z => absurd hle z)
                  refine P_Mo_isName (by omega) (fun _ => w_f (by decide) ?_) (fun z => absurd hnm z)
                  rw [gr_281_39 hGt, nf_318]
                  refine ⟨vpn (by unfold isNm at hnm; omega) (by omega), fun σ1 e1 => ?_⟩
                  rw [nIc (by omega), nI_1] at e1
                  exact next σ1 (ea.trans h0) (hP.put hnin hnm e1) (hf.tr (by rw [e1]; exact Fp.rf.sI rfl)) (e1 ▸ hGt)
                · have h0 : attFlt m dn i ≠ 0 := fun z => hgt (by rw [← ea, z]; decide)
                  rw [← ea]
                  exact bad h0 τ hf hGt
              · have ea : attFlt m dn i = 0 := by
                  unfold attFlt; rw [if_neg hnin, if_pos (hor.resolve_right hnm)]
                unfold B_Mo_badAttributes_179
                exact w_t (by decide) (P_Mo_isName (by omega) (fun z => absurd z hnm) (fun _ => w_t rfl (next τ ea (hP.add hnin hnm) hf hGt)))
            have cont : m i ∉ dn.map m → (((128 : Int32) ≤ nI (m i) → B_Mo_badAttributes_148 NF (L_Mo_badAttributes_72 NF Q (f + 1)) Q 281 (nI (60 * p + frU m)) (nI (60 * p + toU m)) (nI (60 * p + i)) (nI (m i)) τ) ∧ (¬ ((128 : Int32) ≤ nI (m i)) → F_Mo_isName NF (nI (m i)) τ (fun x52 σ51 => ((¬ (x52 = 0) → (B_Mo_badAttributes_148 NF (L_Mo_badAttributes_72 NF Q (f + 1)) Q 281 (nI (60 * p + frU m)) (nI (60 * p + toU m)) (nI (60 * p + i)) (nI (m i)) σ51)) ∧ (x52 = 0 → (Q (2 : Int32) σ51)))))) := fun hnin => by
              rw [i128, nIle (by omega) (by omega)]
              refine ⟨fun h => b148 hnin (Or.inl h), fun h => P_Mo_isName (by omega) (fun hnm => v_f (by decide) (b148 hnin (Or.inr hnm))) (fun hnm => v_t rfl ?_)⟩
              have ea : attFlt m dn i = 2 := by unfold attFlt; rw [if_neg hnin, if_neg h, if_pos hnm]
              rw [← ea]
              exact bad (by rw [ea]; decide) τ hf hGt
            have key90 : ∀ rest q, seg m q rest i → (m i ∈ rest.map m → Q 1 τ) → (m i ∉ rest.map m → m i ∉ dn.map m) → L_Mo_badAttributes_90 NF (L_Mo_badAttributes_72 NF Q (f + 1)) Q (rest.length + 1) 281 (nI (60 * p + frU m)) (nI (60 * p + toU m)) (nI (60 * p + i)) (nI (m i)) (nI (60 * p + q)) τ := by
              intro rest
              induction rest with
              | nil =>
                intro q hs hin hout
                have hs : q = i := hs
                subst hs
                exact w_t ((nIle (by omega) (by omega)).mpr (by omega)) (cont (hout (by simp)))
              | cons j t ih90 =>
                intro q hs hin hout
                obtain ⟨rfl, hs⟩ := hs
                have hle := seg_le _ _ _ hs
                refine w_f (fun h => by have := (nIle (by omega) (by omega)).mp h; omega) ?_
                have hq := (hM j (by omega)).2
                rw [gr_281_15 hGt, nf_296, nI_1, nIc (n := 60 * p + j) (by omega), nIc (n := 60 * p + j + 1) (by omega), hMt.at' (j := j) (by omega) (by omega), hMt.at' (j := j + 1) (by omega) (by omega), i2, nI_add, nI_add, nI_lit (by omega) (by omega)]
                refine ⟨vpn (by omega) (by omega), fun hne => ⟨vpn (by omega) (by omega), fun x ex => ?_⟩, fun heq => hin (by simp [heq])⟩
                subst ex
                rw [show 60 * p + j + 2 + m (j + 1) = 60 * p + (j + 2 + m (j + 1)) by omega]
                refine ih90 _ hs (fun z => hin (by simp only [List.map_cons, List.mem_cons]; exact Or.inr z)) (fun z => hout (fun y => ?_))
                simp only [List.map_cons, List.mem_cons] at y
                exact y.elim (fun q => hne q.symm) z
            refine w_f (fun h => by have := (nIle (by omega) (by omega)).mp h; omega) ?_
            rw [gr_281_15 hGt, nf_296, nIc (n := 60 * p + i) (by omega), hMt.at' (j := i) (by omega) rfl]
            refine ⟨vpn (by omega) (by omega), fun x ex => ?_⟩
            subst ex
            refine ⟨_, key90 dn (frU m) hseg (fun hin => ?_) id⟩
            have ea : attFlt m dn i = 1 := by unfold attFlt; rw [if_pos hin]
            rw [← ea]
            exact bad (by rw [ea]; decide) τ hf hGt
        · rw [if_neg hl] at ht; cases ht
  have walk : ∀ f i τ, toU m + 1 ≤ i + f → i ≤ toU m → (tlv m f i (toU m) = none → Q 1 τ) → ((tlv m f i (toU m)).isSome = true → ∃ n, L_Mo_badAttributes_72 NF Q n 281 (nI (60 * p + frU m)) (nI (60 * p + toU m)) (nI (60 * p + frU m)) τ) → Fp FpL σ τ → Gr τ → L_Mo_badAttributes_23 NF Q (f + 1) 281 (nI (60 * p + frU m)) (nI (60 * p + toU m)) (nI (60 * p + i)) τ := by
    intro f
    induction f with
    | zero => intro i τ h1 h2; omega
    | succ f ih =>
      intro i τ h1 h2 q1 q2 hf hGt
      have hMt := mm hf
      unfold tlv at q1 q2
      by_cases hi : i = toU m
      · rw [if_pos hi] at q2
        exact w_t ((nIle (by omega) (by omega)).mpr (by omega)) (q2 rfl)
      · rw [if_neg hi] at q1 q2
        refine w_f (fun h => by have := (nIle (by omega) (by omega)).mp h; omega) ?_
        rw [i2, nI_add, nIlt (by omega) (by omega)]
        refine ⟨fun hlt => q1 (if_neg (by omega)), fun hge => ?_⟩
        have hLb := (hM (i + 1) (by omega)).2
        rw [gr_281_15 hGt, nf_296, nI_1, nIc (n := 60 * p + i + 1) (by omega), hMt.at' (j := i + 1) (by omega) (by omega), nI_add, nIle (by omega) (by omega)]
        refine ⟨vpn (by omega) (by omega), fun hle => ⟨vpn (by omega) (by omega), fun x ex => ?_⟩, fun hgt => q1 (if_neg (by omega))⟩
        subst ex
        rw [show 60 * p + i + 2 + m (i + 1) = 60 * p + (i + 2 + m (i + 1)) by omega]
        rw [if_pos (by omega)] at q1 q2
        refine ih (i + 2 + m (i + 1)) τ (by omega) (by omega) (fun z => q1 (by rw [z]; rfl)) (fun z => q2 ?_) hf hGt
        cases ht : tlv m f (i + 2 + m (i + 1)) (toU m) with
        | none => rw [ht] at z; cases z
        | some t => rfl
  have key0 : ∀ d i τ, i + d = 11 → (∀ x, x < i → rs_I τ 318 x = -1) → Fp FpL σ τ → Gr τ → L_Mo_badAttributes_2 NF Q (d + 1) 281 (nI (60 * p + frU m)) (nI (60 * p + toU m)) (nI i) τ := by
    intro d
    induction d with
    | zero =>
      intro i τ hi g1 g2 g3
      have e : i = 11 := by omega
      subst e
      have hP0 : PLc τ p m [] := fun x hx => by
        rw [g1 x hx]
        split
        · rfl
        · rfl
      refine w_t (by decide) ⟨_, walk 64 (frU m) τ (by omega) hfr (fun z => k1 z τ g2 g3) (fun z => ?_) g2 g3⟩
      obtain ⟨ps, hps⟩ := Option.isSome_iff_exists.mp z
      exact ⟨_, att _ ps (fun ρ r1 r2 r3 => k2 ps hps ρ r1 r2 r3) 64 (frU m) ps [] τ hps rfl rfl rfl hP0 g2 g3 hfr⟩
    | succ d ih =>
      intro i τ hi g1 g2 g3
      refine w_f (fun h => by rw [i11, nIle (by omega) (by omega)] at h; omega) ?_
      rw [gr_281_39 g3, nf_318, nIc (by omega)]
      refine ⟨vpn (by omega) (by omega), fun σ1 e1 x ex => ?_⟩
      subst ex
      rw [nI_1]
      refine ih (i + 1) σ1 (by omega) (fun x hx => ?_) (by rw [e1]; exact g2.sI rfl) (e1 ▸ g3)
      rw [e1]
      by_cases e : x = i
      · subst e; exact I_same
      · rw [I_nk e]; exact g1 x (by omega)
  exact ⟨_, key0 11 0 σ rfl (fun x hx => by omega) Fp.rf hG⟩
theorem PLc.st {x : Nat} (h : PLc σ p m ps) (hV : VA m n ps) (hx : x < 11) (hn : isNm x) : (fnd1 m ps x = none ∧ rs_I σ 318 x = -1 ∧ x ∉ ps.map m) ∨ ∃ i, fnd1 m ps x = some i ∧ rs_I σ 318 x = nI (60 * p + i + 1) ∧ x ∈ ps.map m ∧ i + 2 + m (i + 1) ≤ n := by
  have h0 := h x hx
  rw [if_pos hn] at h0
  cases hf : fnd1 m ps x with
  | none => rw [hf] at h0; exact Or.inl ⟨rfl, h0, fnd1_none.mp hf⟩
  | some i =>
    rw [hf] at h0
    obtain ⟨h1, h2⟩ := fnd1_some hf
    exact Or.inr ⟨i, rfl, h0, List.mem_map.mpr ⟨i, h1, h2⟩, (hV i h1).1⟩
theorem sl_head {s L : Nat} : (sl m s L).headD 0 = if L = 0 then 0 else nI (m s) := by
  unfold sl
  cases L with
  | zero => rfl
  | succ L => simp [List.range_succ_eq_map]
theorem P_Mo_badRoute {Q : Int32 → rs_Mem → Prop} (h : MR μ σ a) (hp : p < 4) (hn60 : n ≤ 60) (hM : MM σ p n m) (hP : PLc σ p m ps) (hV : VA m n ps) (hnet : pNet (aPe a p) ≠ 0) (kk : Q (annF m ps (decide (pRole (aPe a p) = 0)) (pNet (aPe a p))) σ) : F_Mo_badRoute NF 281 (nI p) σ Q := by
  have hG := h.1
  have t1 : (1 : Int32).toNatClampNeg = 1 := by decide
  have t2 : (2 : Int32).toNatClampNeg = 2 := by decide
  have t3 : (3 : Int32).toNatClampNeg = 3 := by decide
  have t5 : (5 : Int32).toNatClampNeg = 5 := by decide
  have i0 : (0 : Int32) = nI 0 := by decide
  unfold annF at kk
  unfold F_Mo_badRoute
  rw [gr_281_39 hG, nf_318, t1, t2, t3]
  refine ⟨vpl rfl, ?_⟩
  rcases hP.st hV (x := 1) (by omega) (by unfold isNm; omega) with ⟨-, f1, n1⟩ | ⟨j1, -, f1, n1, l1⟩
  · rw [f1]; rw [if_pos (Or.inl n1)] at kk; exact w_t (by decide) kk
  rw [f1]
  refine w_f (nI_pos (by omega)) ⟨vpl rfl, ?_⟩
  rcases hP.st hV (x := 2) (by omega) (by unfold isNm; omega) with ⟨-, f2, n2⟩ | ⟨j2, q2, f2, n2, l2⟩
  · rw [f2]; rw [if_pos (Or.inr (Or.inl n2))] at kk; exact w_t (by decide) kk
  rw [f2]
  refine w_f (nI_pos (by omega)) ⟨vpl rfl, ?_⟩
  rcases hP.st hV (x := 3) (by omega) (by unfold isNm; omega) with ⟨-, f3, n3⟩ | ⟨j3, -, f3, n3, l3⟩
  · rw [f3]; rw [if_pos (Or.inr (Or.inr (Or.inl n3)))] at kk; exact w_t (by decide) kk
  rw [f3]
  refine w_f (nI_pos (by omega)) ?_
  have hfst : rFst (rtU m ps) = if m (j2 + 1) = 0 then 0 else nI (m (j2 + 2)) := by
    show (lsU m ps 2).headD 0 = _
    unfold lsU
    rw [q2]
    exact sl_head
  have hb1 := (hM (j2 + 1) (by omega)).2
  have b46 : ¬ (1 ∉ ps.map m ∨ 2 ∉ ps.map m ∨ 3 ∉ ps.map m ∨ (decide (pRole (aPe a p) = 0) = false ∧ 5 ∉ ps.map m)) → B_Mo_badRoute_46 NF Q 281 (nI p) σ := fun hc => by
    rw [if_neg hc] at kk
    have b87 : ∀ b : Bool, (pRole (aPe a p) = 0 → (b = true ↔ rFst (rtU m ps) = pNet (aPe a p))) → B_Mo_badRoute_87 NF Q 281 (nI p) (b2i b) σ := fun b hb => by
      unfold B_Mo_badRoute_87
      refine P_Mo_isInternal h hp ⟨fun hz => ?_, fun hz => ?_⟩
      · have hne : ¬ pRole (aPe a p) = 0 := fun e => hz (by rw [decide_eq_false (fun n => n e)]; rfl)
        rw [if_neg (fun z => hne (of_decide_eq_true z.1))] at kk
        exact kk
      · have he : pRole (aPe a p) = 0 := Classical.not_not.mp (of_decide_eq_false (b2i_ne.mp hz))
        cases b with
        | true =>
          rw [if_neg (fun z => z.2 ((hb he).mp rfl))] at kk
          exact w_f (by decide) kk
        | false =>
          rw [if_pos ⟨decide_eq_true he, fun z => by have := (hb he).mpr z; cases this⟩] at kk
          exact w_t rfl kk
    unfold B_Mo_badRoute_46
    rw [gr_281_39 hG, nf_318, t2, f2, gr_281_15 hG, nf_296, nI_1, nIc (n := 60 * p + j2 + 1) (by omega), nIc (n := 60 * p + j2 + 1 + 1) (by omega), hM.at' (j := j2 + 1) (by omega) (by omega), i0, nIle (by omega) (by omega), gr_281_2 hG, nf_283, nIc (n := p) (by omega), (h.2.2.2 p hp).1.2.1]
    refine ⟨vpl rfl, vpn (by omega) (by omega), fun hz => ?_, fun hz => ⟨vpl rfl, vpn (by omega) (by omega), vpn hp (by omega), ?_⟩⟩
    · have := b87 false (fun _ => ⟨(fun z => by cases z), fun z => ?_⟩)
      · exact this
      · rw [hfst, if_pos (by omega)] at z
        exact absurd z.symm hnet
    · rw [hM.at' (j := j2 + 2) (by omega) (by omega)]
      rw [if_neg (by omega)] at hfst
      refine ⟨fun hne => ?_, fun he => ?_⟩
      · have := b87 false (fun _ => ⟨(fun z => by cases z), fun z => absurd (hfst ▸ z) hne⟩)
        exact this
      · exact b87 true (fun _ => ⟨fun _ => by rw [hfst]; exact he, fun _ => rfl⟩)
  refine P_Mo_isInternal h hp ⟨fun hz => b46 ?_, fun hz => ⟨by rw [gr_281_39 hG, nf_318]; exact vpl rfl, ?_⟩⟩
  · have he : pRole (aPe a p) = 0 := Classical.not_not.mp (of_decide_eq_false (b2i_ne.mp hz))
    rintro (z | z | z | z)
    · exact z n1
    · exact z n2
    · exact z n3
    · exact absurd (decide_eq_true he) (by rw [z.1]; decide)
  · have hne : ¬ pRole (aPe a p) = 0 := fun e => hz (by rw [decide_eq_false (fun n => n e)]; rfl)
    rw [gr_281_39 hG, t5]
    rcases hP.st hV (x := 5) (by omega) (by unfold isNm; omega) with ⟨-, f5, n5⟩ | ⟨j5, -, f5, n5, l5⟩
    · rw [f5]
      rw [if_pos (Or.inr (Or.inr (Or.inr ⟨decide_eq_false hne, n5⟩)))] at kk
      exact w_f (by decide) kk
    · rw [f5]
      refine w_t (by rw [i0, nIle (by omega) (by omega)]; omega) (b46 ?_)
      rintro (z | z | z | z)
      · exact z n1
      · exact z n2
      · exact z n3
      · exact z.2 n5
theorem P_Mo_said {c d : Int32} {x : Nat} {Q : Int32 → rs_Mem → Prop} (hG : Gr σ) (hp : p < 4) (hn60 : n ≤ 60) (hM : MM σ p n m) (hP : PLc σ p m ps) (hV : VA m n ps) (hc : c = nI x) (hx : x = 1 ∨ x = 3 ∨ x = 4 ∨ x = 5 ∨ x = 9) (kk : Q (vlU m ps x d) σ) : F_Mo_said NF 281 c d σ Q := by
  subst hc
  have i0 : (0 : Int32) = nI 0 := by decide
  unfold vlU at kk
  unfold F_Mo_said
  rw [gr_281_39 hG, nf_318, nIc (by omega)]
  refine ⟨vpn (by omega) (by omega), ?_⟩
  rcases hP.st hV (x := x) (by omega) (by unfold isNm; omega) with ⟨q, f, -⟩ | ⟨j, q, f, -, -⟩
  · rw [q] at kk
    rw [f]
    exact w_f (by decide) kk
  · rw [q] at kk
    have hj := VA_one hV hx q
    rw [f, gr_281_15 hG, nf_296, nI_1, nIc (by omega), hM.at' (j := j + 2) (by omega) (by omega)]
    exact w_t (by rw [i0, nIle (by omega) (by omega)]; omega) ⟨vpn (by omega) (by omega), vpn (by omega) (by omega), kk⟩
end MA
