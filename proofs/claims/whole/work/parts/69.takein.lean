/-! what an UPDATE does -/
def prA (m : Nat → Nat) (b j : Nat) : Int32 × Int32 := (nI (m (b + 2 * j)), nI (m (b + 2 * j + 1)))
def prL (m : Nat → Nat) (b k : Nat) : List (Int32 × Int32) := (List.range k).map (prA m b)
def newC (pre : List (Int32 × Int32)) : List (Int32 × Int32) → List (Int32 × Int32) → Nat
  | _, [] => 0
  | dn, x :: t => (if x ∉ pre ∧ x ∉ dn then 1 else 0) + newC pre (dn ++ [x]) t
def p1000 : UInt64 := 4652007308841189376
def p500 : UInt64 := 4647503709213818880
def wdK (s : Ps) (k : Nat) : Ps := sDmp (sPen (sInc s (upO (pInc s) k none)) (upO (pPen s) k (if (pInc s k).isSome then FP.dadd (pPen s k) p1000 else pPen s k))) (upO (pDmp s) k (if (pInc s k).isSome then dmpG (pDmp s k) (FP.dadd (pPen s k) p1000) else pDmp s k))
noncomputable def anK (s : Ps) (k : Nat) (r : Rt) : Ps := sDmp (sPen (sInc s (upO (pInc s) k (some r))) (upO (pPen s) k (if chg (pInc s k) r then FP.dadd (pPen s k) p500 else pPen s k))) (upO (pDmp s) k (if chg (pInc s k) r then dmpG (pDmp s k) (FP.dadd (pPen s k) p500) else pDmp s k))
def wdQ (pre : List (Int32 × Int32)) (s : Ps) (q : Int32 × Int32) : Ps := if q ∈ pre then wdK s (pre.idxOf q) else s
noncomputable def anQ (r : Rt) (w : List (Int32 × Int32) × Ps) (q : Int32 × Int32) : List (Int32 × Int32) × Ps :=
  if q ∈ w.1 then (w.1, anK w.2 (w.1.idxOf q) r) else if w.1.length < 12 then (w.1 ++ [q], anK w.2 w.1.length r) else w
noncomputable def takeA (a : Ab) (p : Nat) (m : Nat → Nat) (n : Nat) (r : Rt) : Ab :=
  let w := (prL m (toU m) (anU m n)).foldl (anQ r) (aPre a, (prL m 3 (m 2)).foldl (wdQ (aPre a)) (aPe a p))
  stPe (stPre a w.1) p w.2
def nnS (s : Ps) : Prop := ∀ k, k < 12 → vf_n64 (pPen s k)
theorem prL_succ {m : Nat → Nat} {b k : Nat} : prL m b (k + 1) = prL m b k ++ [prA m b k] := by unfold prL; rw [List.range_succ, List.map_append]; rfl
theorem wd_inc {s : Ps} {k : Nat} : pInc (wdK s k) = upO (pInc s) k none ∧ pPen (wdK s k) = upO (pPen s) k (if (pInc s k).isSome then FP.dadd (pPen s k) p1000 else pPen s k) ∧ pDmp (wdK s k) = upO (pDmp s) k (if (pInc s k).isSome then dmpG (pDmp s k) (FP.dadd (pPen s k) p1000) else pDmp s k) := by
  refine ⟨?_, ?_, ?_⟩ <;> simp only [wdK, pInc, pPen, pDmp, sDmp, sPen, sInc]
theorem an_inc {s : Ps} {k : Nat} {r : Rt} : pInc (anK s k r) = upO (pInc s) k (some r) ∧ pPen (anK s k r) = upO (pPen s) k (if chg (pInc s k) r then FP.dadd (pPen s k) p500 else pPen s k) ∧ pDmp (anK s k r) = upO (pDmp s) k (if chg (pInc s k) r then dmpG (pDmp s k) (FP.dadd (pPen s k) p500) else pDmp s k) := by
  refine ⟨?_, ?_, ?_⟩ <;> simp only [anK, pInc, pPen, pDmp, sDmp, sPen, sInc]
theorem nn_wd {s : Ps} {k : Nat} (h : nnS s) (hk : k < 12) : nnS (wdK s k) := fun j hj => by
  rw [wd_inc.2.1]
  by_cases e : j = k
  · subst e; rw [upO_same]; split
    · exact nn_add (h j hj) fin_1000
    · exact h j hj
  · rw [upO_ne e]; exact h j hj
theorem nn_an {s : Ps} {k : Nat} {r : Rt} (h : nnS s) (hk : k < 12) : nnS (anK s k r) := fun j hj => by
  rw [an_inc.2.1]
  by_cases e : j = k
  · subst e; rw [upO_same]; split
    · exact nn_add (h j hj) fin_500
    · exact h j hj
  · rw [upO_ne e]; exact h j hj
theorem RIn.set {σ τ : rs_Mem} {b k : Nat} {inc : Nat → Option Rt} {pen : Nat → UInt64} {dmp : Nat → Bool} {o : Option Rt} {pe : UInt64} {d : Bool} (h : RIn σ b inc pen dmp) (hk : k < 12) (f : Fp (PI b k) σ τ) (g : RI1 τ b k o pe d) : RIn τ b (upO inc k o) (upO pen k pe) (upO dmp k d) := fun j hj => by
  by_cases e : j = k
  · subst e; rw [upO_same, upO_same, upO_same]; exact g
  · rw [upO_ne e, upO_ne e, upO_ne e]
    exact (h j hj).fp f (by unfold PI; omega) (by unfold PI; omega) (by unfold PI; omega) (fun u q z1 z2 => by unfold PI; omega)
theorem PI_fr {σ τ : rs_Mem} {b k : Nat} (hk : k < 12) (f : Fp (PI b k) σ τ) : Fr (fun u => b + 11 ≤ u ∧ u ≤ b + 49) σ τ := f.fr fun u j z => by unfold PI at z; omega
def FrT (p : Nat) : Nat → Prop := fun u => (2 ≤ u ∧ u ≤ 4) ∨ (pb p + 11 ≤ u ∧ u ≤ pb p + 49)
theorem RT1.pre {σ : rs_Mem} {b k : Nat} {pre : List (Int32 × Int32)} {q : Int32 × Int32} {o : Option (List Int32)} (h : RT1 σ b pre k o) : RT1 σ b (pre ++ [q]) k o := ⟨h.1, fun t e => by
  obtain ⟨q', e1, e2, e3⟩ := h.2 t e
  refine ⟨q', ?_, e2, e3⟩
  have hk := (List.getElem?_eq_some_iff.mp e1).1
  rw [List.getElem?_append_left hk]; exact e1⟩
theorem RPe.pre {σ : rs_Mem} {b : Nat} {pre : List (Int32 × Int32)} {q : Int32 × Int32} {s : Ps} (h : RPe σ b pre s) : RPe σ b (pre ++ [q]) s := ⟨h.1, h.2.1, h.2.2.1, h.2.2.2.1, h.2.2.2.2.1, fun k hk => (h.2.2.2.2.2 k hk).pre⟩
theorem CR.learn {μ σ τ : rs_Mem} {a : Ab} {q : Int32 × Int32} (h : CR μ σ a) (f : Fr (fun u => 2 ≤ u ∧ u ≤ 4) σ τ) (g : RPx τ (aPre a ++ [q]) (aOrg a)) (hG : Gr τ) : CR μ τ (stPre a (aPre a ++ [q])) :=
  ⟨hG, g, ⟨h.2.2.1.1.fr f (by omega) (by omega) (by omega), h.2.2.1.2.tr (f.mono fun u z => Or.inl (by omega))⟩, fun p hp => ((h.2.2.2 p hp).fp f.fp (fun u j z1 z2 => Or.inr (by unfold pb at *; omega))).pre⟩
theorem Gr_fr {A : Nat → Prop} {σ τ : rs_Mem} (h : Gr σ) (f : Fr A σ τ) (g : ∀ u, A u → ∀ j, rs_R τ u j = rs_R σ u j) : Gr τ := by
  refine Gr_of h (fun u j => ?_)
  by_cases e : A u
  · exact g u e j
  · exact f.R e j
section TI
variable {μ σ : rs_Mem} {a : Ab} {p n : Nat} {m : Nat → Nat}
theorem CR.in1 {τ : rs_Mem} {k : Nat} {o : Option Rt} {pe : UInt64} {d : Bool} (h : CR μ σ a) (hp : p < 4) (hk : k < 12) (f : Fp (PI (pb p) k) σ τ) (hG : Gr τ) (g : RI1 τ (pb p) k o pe d) : CR μ τ (stPe a p (sDmp (sPen (sInc (aPe a p) (upO (pInc (aPe a p)) k o)) (upO (pPen (aPe a p)) k pe)) (upO (pDmp (aPe a p)) k d))) :=
  h.pe ((PI_fr hk f).mono fun u z => Or.inl (by unfold FPp; omega)) hG ((h.2.2.2 p hp).sIn (PI_fr hk f) ((h.2.2.2 p hp).2.2.2.2.1.set hk f g))
theorem mem_lt {pre : List (Int32 × Int32)} {q : Int32 × Int32} (h : q ∈ pre) : pre.idxOf q < pre.length := List.idxOf_lt_length_of_mem h
/-- one withdrawn prefix -/
theorem P_wd1 {q : Int32 × Int32} {Q : rs_Mem → Prop} (h : CR μ σ a) (hp : p < 4) (hn : nnS (aPe a p)) (kk : ∀ τ, CR μ τ (stPe a p (wdQ (aPre a) (aPe a p) q)) → Fr (FrT p) σ τ → Q τ) : F_Px_find NF 2 q.1 q.2 σ (fun x σ1 => F_In_withdraw NF (pb p + 9) x σ1 Q) := by
  have hlen := h.2.1.2.1
  have e : aPe a p = aPe a p := rfl
  refine P_Px_find h.1 h.2.1 (fun hm => ?_) (fun hm => P_In_withdrawN (kk σ ?_ Fr.rf))
  · have hk := mem_lt hm
    refine P_In_withdraw h.1 hp (by omega) ((h.2.2.2 p hp).2.2.2.2.1 _ (by omega)) (hn _ (by omega)) (fun τ g1 g2 g3 => kk τ ?_ (g2.fr fun u j z => by unfold PI at z; unfold FrT; omega))
    have := h.in1 hp (by omega) g2 g3 g1
    unfold wdQ
    rw [if_pos hm]
    exact this
  · unfold wdQ
    rw [if_neg hm]
    exact h.pe Fr.rf h.1 (h.2.2.2 p hp)
theorem stPe_self {b : Ab} {s t : Ps} : stPe (stPe b p s) p t = stPe b p t := by
  unfold stPe
  refine Prod.ext (funext fun q => ?_) rfl
  unfold upO
  by_cases e : q = p
  · simp [e]
  · simp [e]
/-- one announced prefix -/
theorem P_an1 {q : Int32 × Int32} {r : Rt} {Q : rs_Mem → Prop} (h : CR μ σ a) (hp : p < 4) (hn : nnS (aPe a p)) (hr : RRt σ 11 r) (kk : ∀ τ, CR μ τ (stPe (stPre a (anQ r (aPre a, aPe a p) q).1) p (anQ r (aPre a, aPe a p) q).2) → Fr (FrT p) σ τ → Q τ) : F_Px_learn NF 2 q.1 q.2 σ (fun x σ1 => F_In_announce NF (pb p + 9) x (rs_R σ1 10 0) σ1 Q) := by
  have hlen := h.2.1.2.1
  refine P_Px_learn h.1 h.2.1 (fun hm => ?_) (fun hm h12 => ?_) (fun hm hl τ g1 g2 g3 => ?_)
  · have hk := mem_lt hm
    rw [gr_10_0 h.1]
    refine P_In_announce h.1 hp (by omega) ((h.2.2.2 p hp).2.2.2.2.1 _ (by omega)) (hn _ (by omega)) (RS_up h.1) (by omega) hr (fun τ g1 g2 g3 => kk τ ?_ (g2.fr fun u j z => by unfold PI at z; unfold FrT; omega))
    have := h.in1 hp (by omega) g2 g3 g1
    unfold anQ
    rw [if_pos hm]
    exact this
  · refine w_t (by decide) (kk σ ?_ Fr.rf)
    unfold anQ
    rw [if_neg hm, if_neg (by show ¬ (aPre a).length < 12; omega)]
    exact h.pe Fr.rf h.1 (h.2.2.2 p hp)
  · have hGt : Gr τ := Gr_of h.1 g3
    have h1 := h.learn g2 g1 hGt
    have hr1 : RRt τ 11 r := hr.fr g2 (by omega) (by omega) (by omega)
    rw [gr_10_0 h1.1]
    refine P_In_announce (k := (aPre a).length) h1.1 hp hl ((h1.2.2.2 p hp).2.2.2.2.1 _ hl) (hn _ hl) (RS_up h1.1) (by omega) hr1 (fun ρ t1 t2 t3 => kk ρ ?_ ((g2.mono fun u z => Or.inl z).tr (t2.fr fun u j z => by unfold PI at z; exact Or.inr (by omega))))
    have := h1.in1 hp hl t2 t3 t1
    unfold anQ
    rw [if_neg hm, if_pos hl]
    exact this
/-- the state of the message while it is taken in -/
def TkS (σ : rs_Mem) (p n : Nat) (m : Nat → Nat) (r : Rt) : Prop := Mg σ (pb p + 5) n m ∧ Cn σ n m ∧ RRt σ 11 r
theorem TkS.fr {τ : rs_Mem} {r : Rt} (h : TkS σ p n m r) (f : Fr (FrT p) σ τ) : TkS τ p n m r :=
  ⟨h.1.fr f (by unfold FrT pb; omega), h.2.1.fr f (by unfold FrT pb; omega), h.2.2.fr f (by unfold FrT pb; omega) (by unfold FrT pb; omega) (by unfold FrT pb; omega)⟩
theorem nn_wdQ {pre : List (Int32 × Int32)} {s : Ps} {q : Int32 × Int32} (h : nnS s) (hl : pre.length ≤ 12) : nnS (wdQ pre s q) := by
  unfold wdQ
  split
  · rename_i hm
    exact nn_wd h (by have := mem_lt hm; omega)
  · exact h
theorem an_len {r : Rt} {w : List (Int32 × Int32) × Ps} {q : Int32 × Int32} (h : w.1.length ≤ 12) : (anQ r w q).1.length ≤ 12 := by
  unfold anQ
  split
  · exact h
  · split
    · simp; omega
    · exact h
theorem nn_anQ {r : Rt} {w : List (Int32 × Int32) × Ps} {q : Int32 × Int32} (h : nnS w.2) (hl : w.1.length ≤ 12) : nnS (anQ r w q).2 := by
  unfold anQ
  split
  · rename_i hm
    exact nn_an h (by have := mem_lt hm; omega)
  · split
    · rename_i hlt
      exact nn_an h hlt
    · exact h
theorem stPre_pe {b : Ab} {s : Ps} {l : List (Int32 × Int32)} : stPre (stPe b p s) l = stPe (stPre b l) p s := rfl
theorem foldl_snoc {α β : Type} (f : β → α → β) (b : β) (l : List α) (x : α) : (l ++ [x]).foldl f b = f (l.foldl f b) x := by simp
theorem P_Pe_takeIn {r : Rt} {Q : rs_Mem → Prop} (h : CR μ σ a) (hp : p < 4) (hn : nnS (aPe a p)) (hn60 : n ≤ 60) (hT : TkS σ p n m r) (hf : frmU m n) (kk : ∀ τ, CR μ τ (takeA a p m n r) → Fr (FrT p) σ τ → Q τ) : F_Pe_takeIn NF (pb p) 10 2 σ Q := by
  have i2 : (2 : Int32) = nI 2 := by decide
  have i3 : (3 : Int32) = nI 3 := by decide
  obtain ⟨f1, f2, f3, -⟩ := hf
  have hcn : cnU m = 3 + 2 * m 2 := rfl
  have han : toU m + 2 * anU m n = n := by unfold anU; omega
  have hto : toU m = cnU m + 1 + m (cnU m) := rfl
  unfold takeA at kk
  generalize hs1 : (prL m 3 (m 2)).foldl (wdQ (aPre a)) (aPe a p) = s1 at kk
  have key2 : ∀ d j τ w, j + d = anU m n → w = (prL m (toU m) j).foldl (anQ r) (aPre a, s1) → CR μ τ (stPe (stPre a w.1) p w.2) → nnS w.2 → w.1.length ≤ 12 → Fr (FrT p) σ τ → L_Pe_takeIn_52 NF Q (d + 1) (pb p) 10 2 (nI j) τ := by
    intro d
    induction d with
    | zero =>
      intro j τ w hj hw hc hnw hlw hfr
      have e : j = anU m n := by omega
      subst e
      subst hw
      exact w_t (by rw [(hT.fr hfr).2.1.2.1]; exact (nIle (by omega) (by omega)).mpr (by omega)) (kk τ hc hfr)
    | succ d ih =>
      intro j τ w hj hw hc hnw hlw hfr
      have hTt := hT.fr hfr
      refine w_f (fun h => by rw [hTt.2.1.2.1] at h; have := (nIle (by omega) (by omega)).mp h; omega) ?_
      unfold F_Up_announcedAt
      rw [hTt.2.1.2.2.2, i2, nI_mul, nI_add]
      have b1 := (hTt.1 (toU m + 2 * j) (by omega)).1
      have b2 := (hTt.1 (toU m + 2 * j + 1) (by omega)).1
      have hq : w = (aPre (stPe (stPre a w.1) p w.2), aPe (stPe (stPre a w.1) p w.2) p) := by rw [stPe_at]; rfl
      dsimp only
      rw [gp_0_12 hc.1 hp, np_5 hp, nI_1 (toU m + 2 * j), nIc (n := toU m + 2 * j) (by omega), nIc (n := toU m + 2 * j + 1) (by omega), b1, b2, gp_0_15 hc.1 hp]
      refine ⟨vpn (by omega) (by omega), vpn (by omega) (by omega), ?_⟩
      refine P_an1 (q := prA m (toU m) j) hc hp (by rw [stPe_at]; exact hnw) hTt.2.2 (fun ρ t1 t2 x ex => ?_)
      subst ex
      rw [nI_1]
      rw [← hq] at t1
      refine ih (j + 1) ρ (anQ r w (prA m (toU m) j)) (by omega) ?_ ?_ (nn_anQ hnw hlw) (an_len hlw) (hfr.tr t2)
      · rw [prL_succ, foldl_snoc, ← hw]
      · rw [stPre_pe, stPe_self] at t1
        exact t1
  have key : ∀ d j τ s, j + d = m 2 → s = (prL m 3 j).foldl (wdQ (aPre a)) (aPe a p) → CR μ τ (stPe a p s) → nnS s → Fr (FrT p) σ τ → L_Pe_takeIn_2 NF Q (d + 1) (pb p) 10 2 (nI j) τ := by
    intro d
    induction d with
    | zero =>
      intro j τ s hj hs hc hns hfr
      have e : j = m 2 := by omega
      subst e
      rw [hs1] at hs
      subst hs
      refine w_t (by rw [(hT.fr hfr).2.1.1]; exact (nIle (by omega) (by omega)).mpr (by omega)) ⟨_, key2 (anU m n) 0 τ (aPre a, s) (by omega) rfl hc hns h.2.1.2.1 hfr⟩
    | succ d ih =>
      intro j τ s hj hs hc hns hfr
      have hTt := hT.fr hfr
      refine w_f (fun h => by rw [hTt.2.1.1] at h; have := (nIle (by omega) (by omega)).mp h; omega) ?_
      unfold F_Up_withdrawnAt
      rw [i2, nI_mul, i3, nI_add]
      have b1 := (hTt.1 (3 + 2 * j) (by omega)).1
      have b2 := (hTt.1 (3 + 2 * j + 1) (by omega)).1
      dsimp only
      rw [gp_0_12 hc.1 hp, np_5 hp, nI_1 (3 + 2 * j), nIc (n := 3 + 2 * j) (by omega), nIc (n := 3 + 2 * j + 1) (by omega), b1, b2, gp_0_15 hc.1 hp]
      refine ⟨vpn (by omega) (by omega), vpn (by omega) (by omega), ?_⟩
      refine P_wd1 (q := prA m 3 j) hc hp (by rw [stPe_at]; exact hns) (fun ρ t1 t2 x ex => ?_)
      subst ex
      rw [nI_1]
      rw [stPe_at, stPe_self] at t1
      refine ih (j + 1) ρ (wdQ (aPre a) s (prA m 3 j)) (by omega) ?_ t1 (nn_wdQ hns h.2.1.2.1) (hfr.tr t2)
      rw [prL_succ, foldl_snoc, ← hs]
  exact ⟨_, key (m 2) 0 σ (aPe a p) (by omega) rfl (h.pe Fr.rf h.1 (h.2.2.2 p hp)) hn Fr.rf⟩
end TI
