/-! the model: an UPDATE -/
theorem newC_congr : ∀ (l pre dn pre' dn' : List (Int32 × Int32)), (∀ y, (y ∈ pre ∨ y ∈ dn) ↔ (y ∈ pre' ∨ y ∈ dn')) → newC pre dn l = newC pre' dn' l
  | [], _, _, _, _, _ => rfl
  | x :: t, pre, dn, pre', dn', h => by
    have ih := newC_congr t pre (dn ++ [x]) pre' (dn' ++ [x]) (fun y => by
      have := h y
      simp only [List.mem_append, List.mem_singleton]
      rw [← or_assoc, ← or_assoc, this])
    have hx : (x ∉ pre ∧ x ∉ dn) ↔ (x ∉ pre' ∧ x ∉ dn') := by
      have := h x
      rw [← not_or, ← not_or, this]
    unfold newC
    rw [ih]
    by_cases e : x ∉ pre ∧ x ∉ dn
    · rw [if_pos e, if_pos (hx.mp e)]
    · rw [if_neg e, if_neg (fun z => e (hx.mpr z))]
theorem an_room {r : Rt} {w : List (Int32 × Int32) × Ps} {x : Int32 × Int32} {t : List (Int32 × Int32)} (h : w.1.length + newC w.1 [] (x :: t) ≤ 12) : (anQ r w x).1.length + newC (anQ r w x).1 [] t ≤ 12 ∧ (x ∉ w.1 → w.1.length < 12) := by
  have e : newC w.1 [] (x :: t) = (if x ∉ w.1 ∧ x ∉ ([] : List (Int32 × Int32)) then 1 else 0) + newC w.1 ([] ++ [x]) t := rfl
  rw [e] at h
  by_cases hm : x ∈ w.1
  · rw [if_neg (fun z => z.1 hm)] at h
    have e2 : newC w.1 ([] ++ [x]) t = newC w.1 [] t := newC_congr t _ _ _ _ (fun y => by
      simp only [List.nil_append, List.mem_singleton, List.not_mem_nil, or_false]
      exact ⟨fun z => z.elim id (fun q => q ▸ hm), Or.inl⟩)
    rw [e2] at h
    refine ⟨?_, fun z => absurd hm z⟩
    unfold anQ
    rw [if_pos hm]
    show w.1.length + newC w.1 [] t ≤ 12
    omega
  · rw [if_pos ⟨hm, List.not_mem_nil⟩] at h
    have e2 : newC w.1 ([] ++ [x]) t = newC (w.1 ++ [x]) [] t := newC_congr t _ _ _ _ (fun y => by
      simp only [List.nil_append, List.mem_singleton, List.not_mem_nil, or_false, List.mem_append])
    rw [e2] at h
    refine ⟨?_, fun _ => by omega⟩
    unfold anQ
    rw [if_neg hm, if_pos (by omega)]
    show (w.1 ++ [x]).length + newC (w.1 ++ [x]) [] t ≤ 12
    rw [List.length_append, List.length_singleton]
    omega
def hwP (s : Ps) : Prop := ∀ k rt, pInc s k = some rt → pRole s = 0 → rtP rt = 100
theorem wdK_Role {s : Ps} {k : Nat} : pRole (wdK s k) = pRole s := gi_Role
theorem anK_Role {s : Ps} {k : Nat} {r : Rt} : pRole (anK s k r) = pRole s := gi_Role
theorem wdQ_Role {pre : List (Int32 × Int32)} {s : Ps} {q : Int32 × Int32} : pRole (wdQ pre s q) = pRole s := by
  unfold wdQ; split
  · exact wdK_Role
  · rfl
theorem anQ_Role {r : Rt} {w : List (Int32 × Int32) × Ps} {q : Int32 × Int32} : pRole (anQ r w q).2 = pRole w.2 := by
  unfold anQ; split
  · exact anK_Role
  · split
    · exact anK_Role
    · rfl
theorem wdQ_inc {pre : List (Int32 × Int32)} {s : Ps} {q : Int32 × Int32} {k : Nat} {rt : Rt} (h : pInc (wdQ pre s q) k = some rt) : pInc s k = some rt := by
  unfold wdQ at h; split at h
  · rw [wd_inc.1] at h
    unfold upO at h
    split at h
    · cases h
    · exact h
  · exact h
theorem anQ_inc {r : Rt} {w : List (Int32 × Int32) × Ps} {q : Int32 × Int32} {k : Nat} {rt : Rt} (h : pInc (anQ r w q).2 k = some rt) : rt = r ∨ pInc w.2 k = some rt := by
  have key : ∀ j, pInc (anK w.2 j r) k = some rt → rt = r ∨ pInc w.2 k = some rt := fun j h => by
    rw [an_inc.1] at h
    unfold upO at h
    split at h
    · exact Or.inl (Option.some.inj h).symm
    · exact Or.inr h
  unfold anQ at h; split at h
  · exact key _ h
  · split at h
    · exact key _ h
    · exact Or.inr h
theorem hwP_wdQ {pre : List (Int32 × Int32)} {s : Ps} {q : Int32 × Int32} (h : hwP s) : hwP (wdQ pre s q) := fun k rt hk hr => h k rt (wdQ_inc hk) (wdQ_Role ▸ hr)
theorem hwP_anQ {r : Rt} {w : List (Int32 × Int32) × Ps} {q : Int32 × Int32} (h : hwP w.2) (h0 : pRole w.2 = 0 → rtP r = 100) : hwP (anQ r w q).2 := fun k rt hk hr => by
  rw [anQ_Role] at hr
  rcases anQ_inc hk with e | e
  · rw [e]; exact h0 hr
  · exact h k rt e hr
theorem fltU_nn {m : Nat → Nat} {n : Nat} {ext : Bool} {net : Int32} : fltU m n ext net = 0 ∨ ¬ fltU m n ext net ≤ 0 := by
  have hatt : ∀ (ps dn : List Nat), attF m dn ps = 0 ∨ ¬ attF m dn ps ≤ 0 := fun ps => by
    induction ps with
    | nil => intro dn; exact Or.inl rfl
    | cons i t ih =>
      intro dn
      have e : attF m dn (i :: t) = if attFlt m dn i ≠ 0 then attFlt m dn i else attF m (dn ++ [i]) t := rfl
      rw [e]
      split
      · unfold attFlt
        split
        · exact Or.inr (by decide)
        · split
          · exact Or.inl rfl
          · split
            · exact Or.inr (by decide)
            · exact badV_nn
      · exact ih _
  have hann : ∀ ps, annF m ps ext net = 0 ∨ ¬ annF m ps ext net ≤ 0 := fun ps => by
    unfold annF
    split
    · exact Or.inr (by decide)
    · split
      · exact Or.inr (by decide)
      · exact Or.inl rfl
  unfold fltU
  split
  · split
    · exact hatt _ _
    · split
      · exact hann _
      · split
        · exact Or.inl rfl
        · exact Or.inr (by decide)
  · exact Or.inr (by decide)
noncomputable def updA (a : Ab) (p : Nat) (m : Nat → Nat) (n : Nat) : Ab :=
  if fltU m n (decide (pRole (aPe a p) = 0)) (pNet (aPe a p)) ≠ 0 then stPe a p (endS (aPe a p) 3 (fltU m n (decide (pRole (aPe a p) = 0)) (pNet (aPe a p))))
  else if 12 < (aPre a).length + newC (aPre a) [] (prL m (toU m) (anU m n)) then stPe a p (endS (aPe a p) 6 1)
  else takeA a p m n (rtX m (decide (pRole (aPe a p) = 0)))
section MUP
variable {μ σ : rs_Mem} {a : Ab} {p n : Nat} {m : Nat → Nat}
theorem P_Mo_endA {c d : Int32} {Q : rs_Mem → Prop} (h : MR μ σ a) (hp : p < 4) (kk : ∀ τ, MR μ τ (stPe a p (endS (aPe a p) c d)) → Q τ) : F_Mo_end NF 281 (nI p) c d σ Q :=
  P_Mo_end h.1 hp (h.2.2.2 p hp) (fun τ g1 g2 g3 => kk τ (h.pe (g2.mono fun u j z => sd_in z) g3 g1 hp))
theorem P_Mo_fresh {pre : List (Int32 × Int32)} {Q : Int32 → rs_Mem → Prop} (hG : Gr σ) (hX : MPx σ pre) (hp : p < 4) (hn60 : n ≤ 60) (hM : MM σ p n m) (han : toU m + 2 * anU m n = n) (kk : Q (nI (newC pre [] (prL m (toU m) (anU m n)))) σ) : F_Mo_fresh NF 281 (nI (60 * p + toU m)) (nI (60 * p + n)) σ Q := by
  have i0 : (0 : Int32) = nI 0 := by decide
  have i2 : (2 : Int32) = nI 2 := by decide
  have hpl := hX.2.1
  have hnl := fun j => newC_le (pre := pre) (prL m (toU m) j) []
  have hll : ∀ j, (prL m (toU m) j).length = j := fun j => by unfold prL; simp
  have key : ∀ d j, j + d = anU m n → L_Mo_fresh_5 NF Q (d + 1) 281 (nI (60 * p + toU m)) (nI (60 * p + n)) (nI (newC pre [] (prL m (toU m) j))) (nI (60 * p + toU m + 2 * j)) σ := by
    intro d
    induction d with
    | zero =>
      intro j hj
      have e : j = anU m n := by omega
      subst e
      exact w_t ((nIle (by omega) (by omega)).mpr (by omega)) kk
    | succ d ih =>
      intro j hj
      refine w_f (fun h => by have := (nIle (by omega) (by omega)).mp h; omega) ?_
      have hs := newC_snoc (pre := pre) (prL m (toU m) j) [] (prA m (toU m) j)
      rw [← prL_succ, List.nil_append] at hs
      have hnj := hnl j
      rw [hll j] at hnj
      have b118 : ∀ y : Nat, y = (if prA m (toU m) j ∉ pre ∧ prA m (toU m) j ∉ prL m (toU m) j then 1 else 0) → B_Mo_fresh_118 NF (L_Mo_fresh_5 NF Q (d + 1)) Q 281 (nI (60 * p + toU m)) (nI (60 * p + n)) (nI (60 * p + toU m + 2 * j)) (nI (newC pre [] (prL m (toU m) j))) (nI y) σ := fun y hy x ex z ez => by
        subst ez
        rw [nI_add] at ex
        subst ex
        have := ih (j + 1) (by omega)
        rw [hs, ← hy] at this
        rw [i2, nI_add, show 60 * p + toU m + 2 * j + 2 = 60 * p + toU m + 2 * (j + 1) by omega]
        exact this
      have key2 : ∀ dd q (b : Bool), q + dd = j → (b = true ↔ prA m (toU m) j ∉ pre ∧ prA m (toU m) j ∉ prL m (toU m) q) → L_Mo_fresh_44 NF (L_Mo_fresh_5 NF Q (d + 1)) Q (dd + 1) 281 (nI (60 * p + toU m)) (nI (60 * p + n)) (nI (newC pre [] (prL m (toU m) j))) (nI (60 * p + toU m + 2 * j)) (b2i b) (nI (60 * p + toU m + 2 * q)) σ := by
        intro dd
        induction dd with
        | zero =>
          intro q b hq hb
          have e : q = j := by omega
          subst e
          refine w_t ((nIle (by omega) (by omega)).mpr (by omega)) ?_
          cases b with
          | false =>
            refine w_t rfl ?_
            have := b118 0 (by rw [if_neg (fun z => by have := hb.mpr z; cases this)])
            exact this
          | true =>
            refine w_f (by decide) ?_
            have := b118 1 (by rw [if_pos (hb.mp rfl)])
            exact this
        | succ dd ih2 =>
          intro q b hq hb
          refine w_f (fun h => by have := (nIle (by omega) (by omega)).mp h; omega) ?_
          have b98 : ¬ (prA m (toU m) j ∉ pre ∧ prA m (toU m) j ∉ prL m (toU m) (q + 1)) → B_Mo_fresh_98 NF (L_Mo_fresh_5 NF Q (d + 1)) (L_Mo_fresh_44 NF (L_Mo_fresh_5 NF Q (d + 1)) Q (dd + 1)) Q 281 (nI (60 * p + toU m)) (nI (60 * p + n)) (nI (newC pre [] (prL m (toU m) j))) (nI (60 * p + toU m + 2 * j)) (nI (60 * p + toU m + 2 * q)) σ := fun hn x ex => by
            subst ex
            rw [i2, nI_add, show 60 * p + toU m + 2 * q + 2 = 60 * p + toU m + 2 * (q + 1) by omega]
            exact ih2 (q + 1) false (by omega) ⟨(fun z => by cases z), fun z => absurd z hn⟩
          cases b with
          | false =>
            refine w_t rfl (b98 (fun z => ?_))
            have := hb.mpr ⟨z.1, fun y => z.2 (by rw [prL_succ]; exact List.mem_append.mpr (Or.inl y))⟩
            cases this
          | true =>
            have hb := hb.mp rfl
            have b94 : prA m (toU m) q ≠ prA m (toU m) j → B_Mo_fresh_94 NF (L_Mo_fresh_5 NF Q (d + 1)) (L_Mo_fresh_44 NF (L_Mo_fresh_5 NF Q (d + 1)) Q (dd + 1)) Q 281 (nI (60 * p + toU m)) (nI (60 * p + n)) (nI (newC pre [] (prL m (toU m) j))) (nI (60 * p + toU m + 2 * j)) (nI (60 * p + toU m + 2 * q)) σ := fun hne x ex => by
              subst ex
              rw [i2, nI_add, show 60 * p + toU m + 2 * q + 2 = 60 * p + toU m + 2 * (q + 1) by omega]
              refine ih2 (q + 1) true (by omega) ⟨fun _ => ⟨hb.1, ?_⟩, fun _ => rfl⟩
              rw [prL_succ, List.mem_append, List.mem_singleton]
              exact fun z => z.elim hb.2 (fun e => hne e.symm)
            refine w_f (by decide) ?_
            rw [gr_281_15 hG, nf_296, nI_1, nI_1, nIc (n := 60 * p + toU m + 2 * q) (by omega), nIc (n := 60 * p + toU m + 2 * j) (by omega), nIc (n := 60 * p + toU m + 2 * q + 1) (by omega), nIc (n := 60 * p + toU m + 2 * j + 1) (by omega), hM.at' (j := toU m + 2 * q) (by omega) (by omega), hM.at' (j := toU m + 2 * j) (by omega) (by omega), hM.at' (j := toU m + 2 * q + 1) (by omega) (by omega), hM.at' (j := toU m + 2 * j + 1) (by omega) (by omega)]
            refine ⟨vpn (by omega) (by omega), vpn (by omega) (by omega), fun hne => b94 (fun e => hne (prA_eq.mp e).1), fun he => ⟨vpn (by omega) (by omega), vpn (by omega) (by omega), fun he2 => b98 (fun z => z.2 ?_), fun hne => b94 (fun e => hne (prA_eq.mp e).2)⟩⟩
            rw [prL_succ, List.mem_append, List.mem_singleton]
            exact Or.inr (prA_eq.mpr ⟨he, he2⟩).symm
      rw [gr_281_15 hG, nf_296, nI_1, nIc (n := 60 * p + toU m + 2 * j) (by omega), nIc (n := 60 * p + toU m + 2 * j + 1) (by omega), hM.at' (j := toU m + 2 * j) (by omega) (by omega), hM.at' (j := toU m + 2 * j + 1) (by omega) (by omega)]
      have e0 : nI (60 * p + toU m) = nI (60 * p + toU m + 2 * 0) := rfl
      refine ⟨vpn (by omega) (by omega), vpn (by omega) (by omega), P_Mo_find hG hX (fun hm => ?_) (fun hm => ?_)⟩
      · have hi := mem_lt hm
        refine w_t (by rw [i0, nIle (by omega) (by omega)]; omega) ⟨_, key2 j 0 false (by omega) ⟨(fun z => by cases z), fun z => absurd hm z.1⟩⟩
      · refine w_f (by decide) ⟨_, key2 j 0 true (by omega) ⟨fun _ => ⟨hm, by unfold prL; simp⟩, fun _ => rfl⟩⟩
  exact ⟨_, key (anU m n) 0 (by omega)⟩
theorem P_Mo_update {Q : rs_Mem → Prop} (h : MR μ σ a) (hp : p < 4) (hW : hwP (aPe a p)) (hnn : nnS (aPe a p)) (hnet : pNet (aPe a p) ≠ 0) (hn60 : n ≤ 60) (hn4 : 4 ≤ n) (hM : MM σ p n m) (kk : ∀ τ, MR μ τ (updA a p m n) → Q τ) : F_Mo_update NF 281 (nI p) (nI (60 * p)) (nI (60 * p + n)) σ Q := by
  have i0 : (0 : Int32) = nI 0 := by decide
  have i1 : (1 : Int32) = nI 1 := by decide
  have i2 : (2 : Int32) = nI 2 := by decide
  have i3 : (3 : Int32) = nI 3 := by decide
  have i12 : (12 : Int32) = nI 12 := by decide
  have hb2 := (hM 2 (by omega)).2
  have hcn : cnU m = 3 + 2 * m 2 := rfl
  have hfr : frU m = cnU m + 1 := rfl
  have hto : toU m = frU m + m (cnU m) := rfl
  have hann : anU m n = (n - toU m) / 2 := rfl
  unfold updA at kk
  generalize hE : decide (pRole (aPe a p) = 0) = ext at kk
  generalize hNt : pNet (aPe a p) = net at kk
  have bad : ∀ τ F, MR μ τ a → F ≠ 0 → fltU m n ext net = F → F_Mo_end NF 281 (nI p) 3 F τ Q := fun τ F g h0 hF => by
    rw [if_pos (by rw [hF]; exact h0), hF] at kk
    exact P_Mo_endA g hp kk
  have b62 : ¬ frmU m n → B_Mo_update_62 NF Q 281 (nI p) σ := fun hf => by
    unfold B_Mo_update_62
    exact bad σ 1 h (by decide) (by unfold fltU; rw [if_neg hf])
  have a2 : nI (60 * p) + (2 : Int32) = nI (60 * p + 2) := by rw [i2, nI_add]
  have a3 : nI (60 * p) + (3 : Int32) = nI (60 * p + 3) := by rw [i3, nI_add]
  have am : (2 : Int32) * nI (m 2) = nI (2 * m 2) := by rw [i2, nI_mul]
  unfold F_Mo_update
  rw [gr_281_15 h.1, nf_296, a2, nIc (by omega), hM.at' (j := 2) (by omega) rfl]
  refine ⟨vpn (by omega) (by omega), fun x ex y ey => ?_⟩
  subst ex
  rw [a3, am, nI_add, show 60 * p + 3 + 2 * m 2 = 60 * p + cnU m by omega] at ey
  subst ey
  rw [nIle (by omega) (by omega)]
  refine ⟨fun hle => b62 (fun z => by have := z.1; omega), fun hgt => ?_⟩
  have hbc := (hM (cnU m) (by omega)).2
  rw [nIc (by omega), hM.at' (j := cnU m) (by omega) rfl, nI_1, nI_add, show 60 * p + cnU m + 1 + m (cnU m) = 60 * p + toU m by omega, nIlt (by omega) (by omega)]
  refine ⟨vpn (by omega) (by omega), fun hlt => b62 (fun z => by have := z.2.1; omega), fun hge => ⟨vpn (by omega) (by omega), ?_⟩⟩
  have hmod : (nI (60 * p + n) - nI (60 * p + cnU m) - 1 - nI (m (cnU m))) = nI (n - toU m) := by
    rw [i1, nIsub (by omega), nIsub (by omega), nIsub (by omega)]
    congr 1; omega
  rw [hmod, nI_mod2 (by omega)]
  refine ⟨fun hev => ⟨vpn (by omega) (by omega), fun x ex => ?_⟩, fun hod => b62 (fun z => ?_)⟩
  rotate_left
  · rw [i1, nI_lit (by omega) (by omega)] at hod
    have := z.2.2.1; omega
  subst ex
  have hev : (n - toU m) % 2 = 0 := by
    have : (n - toU m) % 2 ≠ 1 := fun z => hev (by rw [z]; decide)
    omega
  have han : toU m + 2 * anU m n = n := by omega
  have htn : toU m ≤ n := by omega
  have mm : ∀ {τ}, Fp FpL σ τ → MM τ p n m := fun f => hM.fp f (fun j q => by unfold FpL at q; omega)
  have mr : ∀ {τ}, Fp FpL σ τ → Gr τ → MR μ τ a := fun f g => h.sc (f.mono fun u j z => by unfold FpL at z; unfold ScP; omega) g
  -- behind all tests
  have b218 : ∀ τ F, MR μ τ a → MM τ p n m → fltU m n ext net = F → (F = 0 → ∃ ps, psU m = some ps ∧ PLc τ p m ps ∧ VA m n ps ∧ (anU m n ≠ 0 → annF m ps ext net = 0)) → B_Mo_update_218 NF Q 281 (nI p) (nI (60 * p)) (nI (60 * p + n)) (nI (60 * p + cnU m)) (nI (60 * p + toU m)) F τ := fun τ F g gM hF hgood => by
    unfold B_Mo_update_218
    by_cases h0 : F = 0
    · obtain ⟨ps, hps, hPL, hVA, hA0⟩ := hgood h0
      subst h0
      rw [if_neg (fun z => z hF)] at kk
      refine w_t (by decide) (P_Mo_fresh g.1 g.2.1 hp hn60 gM han ?_)
      have hll : (prL m (toU m) (anU m n)).length = anU m n := by unfold prL; simp
      have hnl := newC_le (pre := aPre a) (prL m (toU m) (anU m n)) []
      have hpl : (aPre a).length ≤ 12 := h.2.1.2.1
      rw [g.2.1.1, nI_add, i12, nIle (by omega) (by omega)]
      refine ⟨fun hle x ex => ?_, fun hgt => ?_⟩
      rotate_left
      · rw [if_pos (by omega)] at kk
        exact P_Mo_endA g hp kk
      rw [if_neg (by omega)] at kk
      rw [a3] at ex
      subst ex
      have hr : rtX m ext = rtI m ps (decide (pRole (aPe a p) ≠ 0)) := by
        unfold rtX rtI
        rw [hps, ← hE]
        by_cases e : pRole (aPe a p) = 0 <;> simp [e]
      rw [hr] at kk
      obtain ⟨r, hrr⟩ : ∃ r, r = rtI m ps (decide (pRole (aPe a p) ≠ 0)) := ⟨_, rfl⟩
      rw [← hrr] at kk
      have hr0 : pRole (aPe a p) = 0 → rtP r = 100 := fun z => by
        rw [hrr]; unfold rtI; rw [if_neg (fun y => (of_decide_eq_true y) z)]; rfl
      unfold takeA at kk
      generalize hs1 : (prL m 3 (m 2)).foldl (wdQ (aPre a)) (aPe a p) = s1 at kk
      have gM2 : ∀ {ρ}, Fp TkM τ ρ → MM ρ p n m := fun f => gM.fp f (fun j z => by unfold TkM at z; omega)
      have gP2 : ∀ {ρ}, Fp TkM τ ρ → PLc ρ p m ps := fun f => hPL.fp f (fun j z => by unfold TkM at z; omega)
      have names : anU m n ≠ 0 → 2 ∈ ps.map m ∧ (pRole (aPe a p) ≠ 0 → 5 ∈ ps.map m) := fun hne => by
        have h9 := hA0 hne
        unfold annF at h9
        split at h9
        · cases h9
        · rename_i hno
          refine ⟨Classical.not_not.mp (fun z => hno (Or.inr (Or.inl z))), fun hro => Classical.not_not.mp (fun z => hno (Or.inr (Or.inr (Or.inr ⟨?_, z⟩))))⟩
          rw [← hE]; exact decide_eq_false hro
      have key2 : ∀ d j ρ w, j + d = anU m n → w = (prL m (toU m) j).foldl (anQ r) (aPre a, s1) → MR μ ρ (stPe (stPre a w.1) p w.2) → nnS w.2 → hwP w.2 → pRole w.2 = pRole (aPe a p) → w.1.length + newC w.1 [] ((prL m (toU m) (anU m n)).drop j) ≤ 12 → Fp TkM τ ρ → L_Mo_update_305 NF Q (d + 1) 281 (nI p) (nI (60 * p + n)) (nI (60 * p + toU m + 2 * j)) ρ := by
        intro d
        induction d with
        | zero =>
          intro j ρ w hj hw r1 r2 r3 r4 r5 r6
          have e : j = anU m n := by omega
          subst e
          subst hw
          exact w_t ((nIle (by omega) (by omega)).mpr (by omega)) (kk ρ r1)
        | succ d ih =>
          intro j ρ w hj hw r1 r2 r3 r4 r5 r6
          have gMr := gM2 r6
          refine w_f (fun z => by have := (nIle (by omega) (by omega)).mp z; omega) ?_
          obtain ⟨n2, n5⟩ := names (by omega)
          have hdr : (prL m (toU m) (anU m n)).drop j = prA m (toU m) j :: (prL m (toU m) (anU m n)).drop (j + 1) := by
            rw [List.drop_eq_getElem_cons (by rw [hll]; omega)]
            congr 1
            simp [prL]
          rw [hdr] at r5
          obtain ⟨o1, o2⟩ := an_room (r := r) r5
          rw [gr_281_15 r1.1, nf_296, nI_1, nIc (n := 60 * p + toU m + 2 * j) (by omega), nIc (n := 60 * p + toU m + 2 * j + 1) (by omega), gMr.at' (j := toU m + 2 * j) (by omega) (by omega), gMr.at' (j := toU m + 2 * j + 1) (by omega) (by omega)]
          have hq : w = (aPre (stPe (stPre a w.1) p w.2), aPe (stPe (stPre a w.1) p w.2) p) := by rw [stPe_at]; rfl
          have hro : pRole (aPe (stPe (stPre a w.1) p w.2) p) = pRole (aPe a p) := by rw [stPe_at]; exact r4
          refine ⟨vpn (by omega) (by omega), vpn (by omega) (by omega), P_Mo_announce (q := prA m (toU m) j) r1 hp (by rw [stPe_at]; exact r2) hn60 (by rw [stPe_at]; exact r3) gMr (gP2 r6) hVA n2 (by rw [hro]; exact n5) o2 (fun π t1 t2 x ex => ?_)⟩
          subst ex
          rw [hro, ← hrr, ← hq] at t1
          rw [i2, nI_add, show 60 * p + toU m + 2 * j + 2 = 60 * p + toU m + 2 * (j + 1) by omega]
          refine ih (j + 1) π (anQ r w (prA m (toU m) j)) (by omega) ?_ ?_ (nn_anQ r2 (by omega)) (hwP_anQ r3 (fun z => hr0 (r4 ▸ z))) (anQ_Role.trans r4) o1 (r6.tr t2)
          · rw [prL_succ, foldl_snoc, ← hw]
          · rw [stPre_pe, stPe_self] at t1
            exact t1
      have key : ∀ d j ρ s, j + d = m 2 → s = (prL m 3 j).foldl (wdQ (aPre a)) (aPe a p) → MR μ ρ (stPe a p s) → nnS s → hwP s → pRole s = pRole (aPe a p) → Fp TkM τ ρ → L_Mo_update_267 NF Q (d + 1) 281 (nI p) (nI (60 * p + n)) (nI (60 * p + cnU m)) (nI (60 * p + toU m)) (nI (60 * p + 3 + 2 * j)) ρ := by
        intro d
        induction d with
        | zero =>
          intro j ρ s hj hs r1 r2 r3 r4 r6
          have e : j = m 2 := by omega
          subst e
          rw [hs1] at hs
          subst hs
          exact w_t ((nIle (by omega) (by omega)).mpr (by omega)) ⟨_, key2 (anU m n) 0 ρ (aPre a, s) (by omega) rfl r1 r2 r3 r4 (by simp only [List.drop_zero]; omega) r6⟩
        | succ d ih =>
          intro j ρ s hj hs r1 r2 r3 r4 r6
          have gMr := gM2 r6
          refine w_f (fun z => by have := (nIle (by omega) (by omega)).mp z; omega) ?_
          rw [gr_281_15 r1.1, nf_296, nI_1, nIc (n := 60 * p + 3 + 2 * j) (by omega), nIc (n := 60 * p + 3 + 2 * j + 1) (by omega), gMr.at' (j := 3 + 2 * j) (by omega) (by omega), gMr.at' (j := 3 + 2 * j + 1) (by omega) (by omega)]
          refine ⟨vpn (by omega) (by omega), vpn (by omega) (by omega), P_Mo_withdraw (q := prA m 3 j) r1 hp (by rw [stPe_at]; exact r2) (fun π t1 t2 x ex => ?_)⟩
          subst ex
          rw [i2, nI_add, show 60 * p + 3 + 2 * j + 2 = 60 * p + 3 + 2 * (j + 1) by omega]
          rw [stPe_at, stPe_self] at t1
          refine ih (j + 1) π (wdQ (aPre a) s (prA m 3 j)) (by omega) ?_ t1 (nn_wdQ r2 hpl) (hwP_wdQ r3) (wdQ_Role.trans r4) (r6.tr t2)
          rw [prL_succ, foldl_snoc, ← hs]
      exact ⟨_, key (m 2) 0 τ (aPe a p) (by omega) rfl (g.pe Fp.rf g.1 (g.2.2.2 p hp) hp) hnn hW rfl Fp.rf⟩
    · have hn := fltU_nn (m := m) (n := n) (ext := ext) (net := net)
      rw [hF] at hn
      exact w_f (hn.resolve_left h0) (bad τ F g h0 hF)
  -- prefixes tested
  have b114 : ∀ τ F0, MR μ τ a → MM τ p n m → (F0 ≠ 0 → fltU m n ext net = F0) → (F0 = 0 → fltU m n ext net = (if pfOK m 3 (m 2) ∧ pfOK m (toU m) (anU m n) then 0 else 10) ∧ ∃ ps, psU m = some ps ∧ PLc τ p m ps ∧ VA m n ps ∧ (anU m n ≠ 0 → annF m ps ext net = 0)) → B_Mo_update_114 NF Q 281 (nI p) (nI (60 * p)) (nI (60 * p + n)) (nI (60 * p + cnU m)) (nI (60 * p + toU m)) F0 τ := fun τ F0 g gM hF hgood => by
    have l171 : ∀ F, F ≠ 0 → fltU m n ext net = F → ∀ k, ∃ N : Nat, L_Mo_update_171 NF Q N 281 (nI p) (nI (60 * p)) (nI (60 * p + n)) (nI (60 * p + cnU m)) (nI (60 * p + toU m)) F k τ := fun F h0 hF k => ⟨1, fun _ => b218 τ F g gM hF (fun z => absurd z h0), fun _ => v_f h0 (b218 τ F g gM hF (fun z => absurd z h0))⟩
    have l171s : ∀ F, F ≠ 0 → fltU m n ext net = F → ∀ N k, L_Mo_update_171 NF Q (N + 1) 281 (nI p) (nI (60 * p)) (nI (60 * p + n)) (nI (60 * p + cnU m)) (nI (60 * p + toU m)) F k τ := fun F h0 hF N k => ⟨fun _ => b218 τ F g gM hF (fun z => absurd z h0), fun _ => v_f h0 (b218 τ F g gM hF (fun z => absurd z h0))⟩
    have l119s : ∀ F, F ≠ 0 → fltU m n ext net = F → ∀ N k, L_Mo_update_119 NF Q (N + 1) 281 (nI p) (nI (60 * p)) (nI (60 * p + n)) (nI (60 * p + cnU m)) (nI (60 * p + toU m)) F k τ := fun F h0 hF N k => ⟨fun _ => l171 F h0 hF _, fun _ => v_f h0 (l171 F h0 hF _)⟩
    intro x ex
    rw [a3] at ex
    subst ex
    by_cases h0 : F0 = 0
    · subst h0
      obtain ⟨hfl, hps⟩ := hgood rfl
      have key2 : ∀ d j, j + d = anU m n → pfOK m 3 (m 2) → pfOK m (toU m) j → L_Mo_update_171 NF Q (d + 2) 281 (nI p) (nI (60 * p)) (nI (60 * p + n)) (nI (60 * p + cnU m)) (nI (60 * p + toU m)) 0 (nI (60 * p + toU m + 2 * j)) τ := by
        intro d
        induction d with
        | zero =>
          intro j hj hk1 hk2
          have e : j = anU m n := by omega
          subst e
          rw [if_pos ⟨hk1, hk2⟩] at hfl
          exact w_t ((nIle (by omega) (by omega)).mpr (by omega)) (b218 τ 0 g gM hfl (fun _ => hps))
        | succ d ih =>
          intro j hj hk1 hk2
          refine w_f (fun z => by have := (nIle (by omega) (by omega)).mp z; omega) (v_t rfl ?_)
          rw [gr_281_15 g.1, nf_296, nI_1, nIc (n := 60 * p + toU m + 2 * j) (by omega), nIc (n := 60 * p + toU m + 2 * j + 1) (by omega), gM.at' (j := toU m + 2 * j) (by omega) (by omega), gM.at' (j := toU m + 2 * j + 1) (by omega) (by omega)]
          refine ⟨vpn (by omega) (by omega), vpn (by omega) (by omega), P_Mo_isPrefix (fun hpf => w_f (by decide) (fun x ex => ?_)) (fun hpf => w_t rfl (fun x ex => ?_))⟩
          · subst ex
            rw [i2, nI_add, show 60 * p + toU m + 2 * j + 2 = 60 * p + toU m + 2 * (j + 1) by omega]
            refine ih (j + 1) (by omega) hk1 (fun q hq => ?_)
            by_cases e : q = j
            · subst e; exact hpf
            · exact hk2 q (by omega)
          · rw [if_neg (fun z => hpf (z.2 j (by omega)))] at hfl
            exact l171s 10 (by decide) hfl (d + 1) x
      have key : ∀ d j, j + d = m 2 → pfOK m 3 j → L_Mo_update_119 NF Q (d + 2) 281 (nI p) (nI (60 * p)) (nI (60 * p + n)) (nI (60 * p + cnU m)) (nI (60 * p + toU m)) 0 (nI (60 * p + 3 + 2 * j)) τ := by
        intro d
        induction d with
        | zero =>
          intro j hj hk1
          have e : j = m 2 := by omega
          subst e
          exact w_t ((nIle (by omega) (by omega)).mpr (by omega)) ⟨_, key2 (anU m n) 0 (by omega) hk1 (fun q hq => by omega)⟩
        | succ d ih =>
          intro j hj hk1
          refine w_f (fun z => by have := (nIle (by omega) (by omega)).mp z; omega) (v_t rfl ?_)
          rw [gr_281_15 g.1, nf_296, nI_1, nIc (n := 60 * p + 3 + 2 * j) (by omega), nIc (n := 60 * p + 3 + 2 * j + 1) (by omega), gM.at' (j := 3 + 2 * j) (by omega) (by omega), gM.at' (j := 3 + 2 * j + 1) (by omega) (by omega)]
          refine ⟨vpn (by omega) (by omega), vpn (by omega) (by omega), P_Mo_isPrefix (fun hpf => w_f (by decide) (fun x ex => ?_)) (fun hpf => w_t rfl (fun x ex => ?_))⟩
          · subst ex
            rw [i2, nI_add, show 60 * p + 3 + 2 * j + 2 = 60 * p + 3 + 2 * (j + 1) by omega]
            refine ih (j + 1) (by omega) (fun q hq => ?_)
            by_cases e : q = j
            · subst e; exact hpf
            · exact hk1 q (by omega)
          · rw [if_neg (fun z => hpf (z.1 j (by omega)))] at hfl
            exact l119s 10 (by decide) hfl (d + 1) x
      exact ⟨_, key (m 2) 0 (by omega) (fun q hq => by omega)⟩
    · exact ⟨1, l119s F0 h0 (hF h0) 0 _⟩
  have hfrm : ∀ ps, psU m = some ps → frmU m n := fun ps hps => ⟨by omega, htn, hev, by rw [hps]; rfl⟩
  rw [show 60 * p + cnU m + 1 = 60 * p + frU m by omega]
  refine P_Mo_badAttributes h.1 hp hn60 hM htn (fun hno τ g1 g2 => v_f (by decide) (b114 τ 1 (mr g1 g2) (mm g1) (fun _ => ?_) (fun z => absurd z (by decide)))) (fun ps hps τ g3 g1 g2 => ?_)
  · unfold fltU; rw [if_neg (fun z => by have := z.2.2.2; rw [hno] at this; cases this)]
  · have hpg : (psU m).getD [] = ps := by rw [hps]; rfl
    have hFl : fltU m n ext net = if attF m [] ps ≠ 0 then attF m [] ps else if anU m n ≠ 0 ∧ annF m ps ext net ≠ 0 then annF m ps ext net else if pfOK m 3 (m 2) ∧ pfOK m (toU m) (anU m n) then 0 else 10 := by
      unfold fltU; rw [if_pos (hfrm ps hps), hpg]
    by_cases h0 : attF m [] ps = 0
    · have hPL := g3 h0
      have hVA := VA_of hps h0 htn
      rw [if_neg (fun z => z h0)] at hFl
      rw [h0]
      refine v_t rfl ?_
      rw [nIle (by omega) (by omega)]
      refine ⟨fun hle => b114 τ 0 (mr g1 g2) (mm g1) (fun z => absurd rfl z) (fun _ => ⟨?_, ps, hps, hPL, hVA, fun z => by omega⟩), fun hgt => ?_⟩
      · rw [if_neg (fun z => z.1 (by omega))] at hFl; exact hFl
      · have hne : anU m n ≠ 0 := by omega
        refine P_Mo_badRoute (mr g1 g2) hp hn60 (mm g1) hPL hVA (by rw [hNt]; exact hNt ▸ hnet) ?_
        rw [hE, hNt]
        refine b114 τ _ (mr g1 g2) (mm g1) (fun z => ?_) (fun z => ⟨?_, ps, hps, hPL, hVA, fun _ => z⟩)
        · rw [if_pos ⟨hne, z⟩] at hFl; exact hFl
        · rw [if_neg (fun y => y.2 z)] at hFl; exact hFl
    · rw [if_pos h0] at hFl
      exact v_f h0 (b114 τ _ (mr g1 g2) (mm g1) (fun _ => hFl) (fun z => absurd z h0))
end MUP
