/-! the letter -/
def FrL : Nat → Prop := fun u => u = 27 ∨ u = 28
def LW (σ : rs_Mem) (q : Int32 × Int32) (l : List Int32) : Prop := rs_I σ 27 2 = q.1 ∧ rs_I σ 27 3 = q.2 ∧ rs_I σ 27 1 = nI l.length ∧ l.length ≤ 60 ∧ ∀ k (h : k < l.length), k ≠ 0 → rs_I σ 28 k = l[k]
/-- a letter that is done -/
def LD (σ : rs_Mem) (q : Int32 × Int32) (m : List Int32) : Prop := rs_I σ 27 2 = q.1 ∧ rs_I σ 27 3 = q.2 ∧ rs_I σ 27 1 = nI m.length ∧ m.length ≤ 60 ∧ Ar σ 28 0 m
/-- prefix of the letter -/
def LQ (σ : rs_Mem) (q : Int32 × Int32) : Prop := rs_I σ 27 2 = q.1 ∧ rs_I σ 27 3 = q.2
section LE
variable {σ : rs_Mem} {q : Int32 × Int32} {l : List Int32} {Q : rs_Mem → Prop}
theorem P_Le_setPrefix {x y : Int32} (kk : ∀ τ, LQ τ (x, y) → Fr FrL σ τ → (∀ u j, rs_R τ u j = rs_R σ u j) → Q τ) : F_Le_setPrefix NF 27 x y σ Q := by
  intro σ1 e1 σ2 e2
  refine kk σ2 ⟨?_, by rw [e2]; exact I_same⟩ ?_ (fun u j => by rw [e2, e1]; rfl)
  · rw [e2, I_nk (by omega), e1]; exact I_same
  · rw [e2, e1]; exact (Fr.rf.sI (Or.inl rfl)).sI (Or.inl rfl)
theorem P_Le_begin {w : Int32} (hG : Gr σ) (h : LQ σ q) (kk : ∀ τ, LW τ q [0, 2, w] → Fr FrL σ τ → Gr τ → Q τ) : F_Le_begin NF 27 w σ Q := by
  unfold F_Le_begin
  rw [gr_27_0 hG, nf_28]
  refine ⟨vpl rfl, fun σ1 e1 => ?_⟩
  have hG1 : Gr σ1 := e1 ▸ hG
  rw [gr_27_0 hG1, nf_28]
  refine ⟨vpl rfl, fun σ2 e2 σ3 e3 => ?_⟩
  have t1 : (1 : Int32).toNatClampNeg = 1 := by decide
  have t2 : (2 : Int32).toNatClampNeg = 2 := by decide
  rw [t1] at e1
  rw [t2] at e2
  refine kk σ3 ⟨?_, ?_, by rw [e3]; exact I_same, by simp, fun k hk h0 => ?_⟩ ?_ (by rw [e3, e2]; exact hG1)
  · rw [e3, I_nk (by omega), e2, I_ne (by omega), e1, I_ne (by omega)]; exact h.1
  · rw [e3, I_nk (by omega), e2, I_ne (by omega), e1, I_ne (by omega)]; exact h.2
  · simp only [List.length_cons, List.length_nil] at hk
    rw [e3, I_ne (by omega), e2]
    rcases (by omega : k = 1 ∨ k = 2) with rfl | rfl
    · rw [I_nk (by omega), e1]; exact I_same
    · exact I_same
  · rw [e3, e2, e1]; exact ((Fr.rf.sI (Or.inr rfl)).sI (Or.inr rfl)).sI (Or.inl rfl)
theorem P_Le_add {x : Int32} (hG : Gr σ) (h : LW σ q l) (hl : l.length < 60) (kk : ∀ τ, LW τ q (l ++ [x]) → Fr FrL σ τ → Gr τ → Q τ) : F_Le_add NF 27 x σ Q := by
  obtain ⟨a1, a2, a3, a4, a5⟩ := h
  have e60 : (60 : Int32) = nI 60 := by decide
  unfold F_Le_add
  rw [a3, e60, nIle (by omega) (by omega), gr_27_0 hG, nf_28, nIc (by omega)]
  refine w_f (by omega) ⟨vpn hl (by omega), fun σ1 e1 σ2 e2 => ?_⟩
  have b3 : rs_I σ1 27 1 = nI l.length := by rw [e1, I_ne (by omega)]; exact a3
  rw [b3, nI_1] at e2
  refine kk σ2 ⟨?_, ?_, ?_, ?_, fun k hk h0 => ?_⟩ ?_ (by rw [e2, e1]; exact hG)
  · rw [e2, I_nk (by omega), e1, I_ne (by omega)]; exact a1
  · rw [e2, I_nk (by omega), e1, I_ne (by omega)]; exact a2
  · rw [e2, List.length_append]; exact I_same
  · rw [List.length_append]; simp; omega
  · rw [List.length_append] at hk
    simp only [List.length_singleton] at hk
    rw [e2, I_ne (by omega), e1]
    by_cases e : k = l.length
    · subst e; rw [I_same]; simp
    · rw [I_nk e, List.getElem_append_left (by omega)]; exact a5 k (by omega) h0
  · rw [e2, e1]; exact (Fr.rf.sI (Or.inr rfl)).sI (Or.inl rfl)
theorem P_Le_addValue {x y : Int32} (hG : Gr σ) (h : LW σ q l) (hl : l.length + 3 ≤ 60) (kk : ∀ τ, LW τ q (l ++ [x, 1, y]) → Fr FrL σ τ → Gr τ → Q τ) : F_Le_addValue NF 27 x y σ Q := by
  refine P_Le_add hG h (by omega) (fun τ1 g1 g2 g3 => P_Le_add g3 g1 (by simp; omega) (fun τ2 g4 g5 g6 => P_Le_add g6 g4 (by simp; omega) (fun τ3 g7 g8 g9 => kk τ3 ?_ ((g2.tr g5).tr g8) g9)))
  simpa using g7
theorem P_Le_addList {x y : Int32} {t v : Nat} {m : List Int32} (hG : Gr σ) (h : LW σ q l) (hm : Ar σ v 0 m) (hv : v ≠ 27 ∧ v ≠ 28) (hn : m.length ≤ NF v) (hb : NF v < 1000) (hl : l.length + 2 + t + m.length ≤ 60)
    (kk : ∀ τ, LW τ q (l ++ x :: nI (t + m.length) :: (List.replicate t y ++ m)) → Fr FrL σ τ → Gr τ → Q τ) : F_Le_addList NF 27 x y (nI t) v (nI m.length) σ Q := by
  have hvL : ¬ FrL v := by unfold FrL; omega
  have key2 : ∀ d i τ, i + d = m.length → LW τ q (l ++ x :: nI (t + m.length) :: (List.replicate t y ++ m.take i)) → Fr FrL σ τ → Gr τ → L_Le_addList_36 NF Q (d + 1) 27 v (nI m.length) (nI i) τ := by
    intro d
    induction d with
    | zero =>
      intro i τ hi g1 g2 g3
      have e : i = m.length := by omega
      subst e
      rw [List.take_length] at g1
      exact w_t ((nIle (by omega) (by omega)).mpr (by omega)) (kk τ g1 g2 g3)
    | succ d ih =>
      intro i τ hi g1 g2 g3
      refine w_f (fun h => by have := (nIle (by omega) (by omega)).mp h; omega) (w_f (fun h => by have := (nIle (by omega) (by omega)).mp h; omega) ⟨vpn (by omega) (by omega), ?_⟩)
      rw [nIc (by omega), g2.I hvL, hm.get0 (by omega)]
      refine P_Le_add g3 g1 (by simp; omega) (fun τ2 g4 g5 g6 z ez => ?_)
      subst ez
      rw [nI_1]
      refine ih (i + 1) τ2 (by omega) ?_ (g2.tr g5) g6
      rw [List.take_succ_eq_append_getElem (by omega)]
      simpa using g4
  have key : ∀ d i τ, i + d = t → LW τ q (l ++ x :: nI (t + m.length) :: List.replicate i y) → Fr FrL σ τ → Gr τ → L_Le_addList_16 NF Q (d + 1) 27 y (nI t) v (nI m.length) (nI i) τ := by
    intro d
    induction d with
    | zero =>
      intro i τ hi g1 g2 g3
      have e : i = t := by omega
      subst e
      exact w_t ((nIle (by omega) (by omega)).mpr (by omega)) ⟨_, key2 m.length 0 τ (by omega) (by simpa using g1) g2 g3⟩
    | succ d ih =>
      intro i τ hi g1 g2 g3
      refine w_f (fun h => by have := (nIle (by omega) (by omega)).mp h; omega) (P_Le_add g3 g1 (by simp; omega) (fun τ2 g4 g5 g6 z ez => ?_))
      subst ez
      rw [nI_1]
      refine ih (i + 1) τ2 (by omega) ?_ (g2.tr g5) g6
      rw [List.replicate_succ']
      simpa using g4
  refine P_Le_add hG h (by omega) (fun τ1 g1 g2 g3 => ?_)
  rw [nI_add]
  refine P_Le_add g3 g1 (by simp; omega) (fun τ2 g4 g5 g6 => ⟨_, key t 0 τ2 (by omega) (by simpa using g4) (g2.tr g5) g6⟩)
/-- the first byte is put in: the letter is done -/
theorem LW.done {x : Int32} {m : List Int32} {σ1 : rs_Mem} (h : LW σ q (x :: m)) (e : σ1 = rs_sI σ 28 0 (nI (m.length + 1))) : LD σ1 q (nI (m.length + 1) :: m) := by
  obtain ⟨a1, a2, a3, a4, a5⟩ := h
  subst e
  refine ⟨(I_ne (by omega)).trans a1, (I_ne (by omega)).trans a2, (I_ne (by omega)).trans a3, a4, fun k hk => ?_⟩
  rw [Nat.zero_add]
  cases k with
  | zero => exact I_same
  | succ k => exact (I_nk (by omega)).trans (a5 (k + 1) hk (by omega))
theorem P_Le_endAnnouncement {t : List Int32} (hG : Gr σ) (h : LW σ q (0 :: 2 :: 0 :: 0 :: t)) (hl : t.length ≤ 50) (kk : ∀ τ, LD τ q (msgA t q) → Fr FrL σ τ → Gr τ → Q τ) : F_Le_endAnnouncement NF 27 σ Q := by
  obtain ⟨a1, a2, a3, a4, a5⟩ := h
  have t3 : (3 : Int32).toNatClampNeg = 3 := by decide
  have t0 : (0 : Int32).toNatClampNeg = 0 := by decide
  unfold F_Le_endAnnouncement
  rw [gr_27_0 hG, nf_28, t3, a3]
  refine ⟨vpl rfl, fun σ1 e1 => ?_⟩
  have e4 : (4 : Int32) = nI 4 := by decide
  rw [e4, nIsub (by simp)] at e1
  have h1 : LW σ1 q (0 :: 2 :: 0 :: nI t.length :: t) := by
    subst e1
    refine ⟨(I_ne (by omega)).trans a1, (I_ne (by omega)).trans a2, (I_ne (by omega)).trans a3, a4, fun k hk h0 => ?_⟩
    by_cases hk3 : k = 3
    · subst hk3; rw [I_same]; simp
    · rw [I_nk hk3]
      have h9 := a5 k hk h0
      rw [h9]
      match k, h0, hk3 with
      | 0, h0, _ => exact absurd rfl h0
      | 1, _, _ => rfl
      | 2, _, _ => rfl
      | 3, _, h3 => exact absurd rfl h3
      | k + 4, _, _ => rfl
  have hG1 : Gr σ1 := e1 ▸ hG
  have f1 : Fr FrL σ σ1 := by rw [e1]; exact Fr.rf.sI (Or.inr rfl)
  rw [h1.1]
  refine P_Le_add hG1 h1 (by simp; omega) (fun τ1 g1 g2 g3 => ?_)
  rw [g1.2.1]
  refine P_Le_add g3 g1 (by simp; omega) (fun τ2 g4 g5 g6 => ?_)
  rw [gr_27_0 g6, nf_28, t0, g4.2.2.1]
  refine ⟨vpl rfl, fun σ5 e5 => ?_⟩
  have g7 : LW τ2 q (0 :: (2 :: 0 :: nI t.length :: (t ++ [q.1, q.2]))) := by simpa using g4
  refine kk σ5 ?_ (((f1.tr g2).tr g5).tr (by rw [e5]; exact Fr.rf.sI (Or.inr rfl))) (e5 ▸ g6)
  have e6 : σ5 = rs_sI τ2 28 0 (nI ((2 :: 0 :: nI t.length :: (t ++ [q.1, q.2])).length + 1)) := by rw [e5]; simp
  have g8 := g7.done e6
  unfold msgA
  have e7 : (2 :: 0 :: nI t.length :: (t ++ [q.1, q.2])).length + 1 = t.length + 6 := by simp
  rw [e7] at g8
  exact g8
def msgW (q : Int32 × Int32) : List Int32 := [6, 2, 1, q.1, q.2, 0]
theorem P_Le_writeWithdrawal (hG : Gr σ) (h : LQ σ q) (kk : ∀ τ, LD τ q (msgW q) → Fr FrL σ τ → Gr τ → Q τ) : F_Le_writeWithdrawal NF 27 σ Q := by
  have t0 : (0 : Int32).toNatClampNeg = 0 := by decide
  refine P_Le_begin hG h (fun τ1 g1 g2 g3 => ?_)
  rw [g1.1]
  refine P_Le_add g3 g1 (by simp) (fun τ2 g4 g5 g6 => ?_)
  rw [g4.2.1]
  refine P_Le_add g6 g4 (by simp) (fun τ3 g7 g8 g9 => P_Le_add g9 g7 (by simp) (fun τ4 h1 h2 h3 => ?_))
  rw [gr_27_0 h3, nf_28, t0, h1.2.2.1]
  refine ⟨vpl rfl, fun σ5 e5 => ?_⟩
  have g : LW τ4 q (0 :: [2, 1, q.1, q.2, 0]) := by simpa using h1
  refine kk σ5 (g.done (by rw [e5]; rfl)) ((((g2.tr g5).tr g8).tr h2).tr (by rw [e5]; exact Fr.rf.sI (Or.inr rfl))) (e5 ▸ h3)
def attO (r : Rt) (n : Nat) : List Int32 := 1 :: 1 :: rtO r :: 2 :: nI (1 + n + (rtA r).length) :: (List.replicate (1 + n) 100 ++ rtA r ++ [3, 1, 7])
theorem P_Le_writeOutward {r : Rt} {v n : Nat} {Q : Int32 → rs_Mem → Prop} (hG : Gr σ) (h : LQ σ q) (hS : RS σ v) (hr : RRt σ v r) (hv : v + 2 < 27 ∨ 28 < v) (hn : n ≤ 3)
    (k1 : (rtA r).length + (1 + n) ≤ 8 → ∀ τ, LD τ q (msgA (attO r n) q) → Fr FrL σ τ → Gr τ → Q 1 τ) (k0 : ¬ (rtA r).length + (1 + n) ≤ 8 → Q 0 σ) : F_Le_writeOutward NF 27 v (nI n) σ Q := by
  intro x ex
  have e1 : (1 : Int32) = nI 1 := by decide
  rw [e1, nI_add] at ex
  subst ex
  have e8 : (8 : Int32) = nI 8 := by decide
  have hl := hr.2.2.2.2.2.2.2.2.2.1
  rw [hr.2.1, nI_add, e8, nIle (by omega) (by omega)]
  refine ⟨fun hc => ?_, fun hc => k0 hc⟩
  have nv : ¬ FrL v ∧ ¬ FrL (v + 1) ∧ ¬ FrL (v + 2) := by unfold FrL; omega
  refine P_Le_begin hG h (fun τ1 g1 g2 g3 => P_Le_add g3 g1 (by simp) (fun τ2 g4 g5 g6 => ?_))
  have hr2 := hr.fr (g2.tr g5) nv.1 nv.2.1 nv.2.2
  rw [hr2.1]
  refine P_Le_addValue g6 g4 (by simp) (fun τ3 g7 g8 g9 => ?_)
  have f3 := (g2.tr g5).tr g8
  have hr3 := hr.fr f3 nv.1 nv.2.1 nv.2.2
  have hS3 := hS.fr f3 nv.1
  rw [hS3.1, hr3.2.1]
  refine P_Le_addList g9 g7 hr3.2.2.2.2.2.2.2.1 (by omega) (by rw [hS3.2.2.1]; omega) (by rw [hS3.2.2.1]; omega) (by simp; omega) (fun τ4 h1 h2 h3 => P_Le_addValue h3 h1 (by simp; omega) (fun τ5 h4 h5 h6 => P_Le_endAnnouncement (t := attO r n) h6 ?_ (by unfold attO; simp; omega) (fun τ6 h7 h8 h9 => k1 hc τ6 h7 (((f3.tr h2).tr h5).tr h8) h9)))
  unfold attO
  simpa using h4
def attI (r : Rt) (pref id : Int32) : List Int32 := 1 :: 1 :: rtO r :: 2 :: nI (rtA r).length :: (rtA r ++ [3, 1, rtN r] ++ (if rtM r = -1 then [] else [4, 1, rtM r]) ++ [5, 1, pref] ++ (if id = -1 then [] else [9, 1, rSrc r id, 10, nI (1 + (rtC r).length), 7] ++ rtC r))
theorem P_Le_writeInward {r : Rt} {v : Nat} {pref id : Int32} {Q : Int32 → rs_Mem → Prop} (hG : Gr σ) (h : LQ σ q) (hS : RS σ v) (hr : RRt σ v r) (hv : v + 2 < 27 ∨ 28 < v)
    (k1 : (id = -1 ∨ (rtC r).length + 1 ≤ 6) → ∀ τ, LD τ q (msgA (attI r pref id) q) → Fr FrL σ τ → Gr τ → Q 1 τ) (k0 : ¬ (id = -1 ∨ (rtC r).length + 1 ≤ 6) → Q 0 σ) : F_Le_writeInward NF 27 v pref id σ Q := by
  have hla := hr.2.2.2.2.2.2.2.2.2.1
  have hlc := hr.2.2.2.2.2.2.2.2.2.2
  have nv : ¬ FrL v ∧ ¬ FrL (v + 1) ∧ ¬ FrL (v + 2) := by unfold FrL; omega
  have main : ∀ c : Int32, (c = 0 ↔ id = -1) → (id = -1 ∨ (rtC r).length + 1 ≤ 6) → B_Le_writeInward_30 NF Q 27 v pref id c σ := fun c hc hok => by
    refine P_Le_begin hG h (fun τ1 g1 g2 g3 => P_Le_add g3 g1 (by simp) (fun τ2 g4 g5 g6 => ?_))
    have hr2 := hr.fr (g2.tr g5) nv.1 nv.2.1 nv.2.2
    rw [hr2.1]
    refine P_Le_addValue g6 g4 (by simp) (fun τ3 g7 g8 g9 => ?_)
    have f3 := (g2.tr g5).tr g8
    have hr3 := hr.fr f3 nv.1 nv.2.1 nv.2.2
    have hS3 := hS.fr f3 nv.1
    rw [hS3.1, hr3.2.1]
    have e0 : (0 : Int32) = nI 0 := by decide
    have g7' : LW τ3 q [0, 2, 0, 0, 1, 1, rtO r] := by simpa using g7
    have al : F_Le_addList NF 27 2 0 (nI 0) (v + 1) (nI (rtA r).length) τ3 (fun σ55 => F_Le_addValue NF 27 3 (rs_I σ55 v 3) σ55 (fun σ56 => (((rs_I σ56 v 4) = (-1 : Int32) → (B_Le_writeInward_90 NF Q 27 v pref id c σ56)) ∧ (¬ ((rs_I σ56 v 4) = (-1 : Int32)) → (F_Le_addValue NF 27 (4 : Int32) (rs_I σ56 v 4) σ56 (fun σ57 => (B_Le_writeInward_90 NF Q 27 v pref id c σ57))))))) := by
      refine P_Le_addList g9 g7' hr3.2.2.2.2.2.2.2.1 (by omega) (by rw [hS3.2.2.1]; omega) (by rw [hS3.2.2.1]; omega) (by simp; omega) (fun τ4 h1 h2 h3 => ?_)
      have f4 := f3.tr h2
      have hr4 := hr.fr f4 nv.1 nv.2.1 nv.2.2
      rw [hr4.2.2.1]
      refine P_Le_addValue h3 h1 (by simp; omega) (fun τ5 h4 h5 h6 => ?_)
      have f5 := f4.tr h5
      have hr5 := hr.fr f5 nv.1 nv.2.1 nv.2.2
      rw [hr5.2.2.2.1]
      have rest : ∀ τ, LW τ q (0 :: 2 :: 0 :: 0 :: (1 :: 1 :: rtO r :: 2 :: nI (rtA r).length :: (rtA r ++ [3, 1, rtN r] ++ (if rtM r = -1 then [] else [4, 1, rtM r])))) → Fr FrL σ τ → Gr τ → B_Le_writeInward_90 NF Q 27 v pref id c τ := fun τ w1 w2 w3 => by
        have hlm : (if rtM r = -1 then ([] : List Int32) else [4, 1, rtM r]).length ≤ 3 := by split <;> simp
        have fin : ∀ ρ, LW ρ q (0 :: 2 :: 0 :: 0 :: attI r pref id) → Fr FrL σ ρ → Gr ρ → B_Le_writeInward_129 NF Q 27 ρ := fun ρ y1 y2 y3 => by
          refine P_Le_endAnnouncement y3 y1 ?_ (fun τ6 h7 h8 h9 => k1 hok τ6 h7 (y2.tr h8) h9)
          have : (if id = -1 then ([] : List Int32) else [9, 1, rSrc r id, 10, nI (1 + (rtC r).length), 7] ++ rtC r).length ≤ 12 := by split <;> simp; omega
          unfold attI
          simp only [List.length_cons, List.length_append, List.length_nil]
          omega
        refine P_Le_addValue w3 w1 (by simp only [List.length_cons, List.length_append, List.length_nil]; omega) (fun τ5 h4 h5 h6 => ?_)
        refine ⟨fun hz => fin τ5 ?_ (w2.tr h5) h6, fun hz => ?_⟩
        · have hid := hc.mp hz
          unfold attI
          rw [if_pos hid]
          simpa using h4
        · have hid : ¬ id = -1 := fun z => hz (hc.mpr z)
          have hl6 : (rtC r).length + 1 ≤ 6 := hok.resolve_left hid
          have f5' := w2.tr h5
          have hr5' := hr.fr f5' nv.1 nv.2.1 nv.2.2
          refine P_Ro_sourceOr hr5' (P_Le_addValue h6 h4 (by simp only [List.length_cons, List.length_append, List.length_nil]; omega) (fun τ6 h7 h8 h9 => ?_))
          have f6 := f5'.tr h8
          have hr6 := hr.fr f6 nv.1 nv.2.1 nv.2.2
          have hS6 := hS.fr f6 nv.1
          rw [hS6.2.1, hr6.2.2.2.2.2.2.1]
          have e1 : (1 : Int32) = nI 1 := by decide
          have al2 : F_Le_addList NF 27 10 7 (nI 1) (v + 2) (nI (rtC r).length) τ6 (fun σ56 => (B_Le_writeInward_129 NF Q 27 σ56)) := by
            refine P_Le_addList h9 h7 hr6.2.2.2.2.2.2.2.2.1 (by omega) (by rw [hS6.2.2.2]; omega) (by rw [hS6.2.2.2]; omega) (by simp only [List.length_cons, List.length_append, List.length_nil]; omega) (fun τ7 i1 i2 i3 => fin τ7 ?_ (f6.tr i2) i3)
            unfold attI
            rw [if_neg hid]
            simpa using i1
          exact al2
      refine ⟨fun hm => rest τ5 ?_ f5 h6, fun hm => ?_⟩
      · rw [if_pos hm]; simpa using h4
      · refine P_Le_addValue h6 h4 (by simp; omega) (fun τ6 h7 h8 h9 => rest τ6 ?_ (f5.tr h8) h9)
        rw [if_neg hm]; simpa using h7
    exact al
  have e6 : (6 : Int32) = nI 6 := by decide
  refine ⟨fun hid => w_t rfl (main 0 ⟨fun _ => hid, fun _ => rfl⟩ (Or.inl hid)), fun hid => w_f (by decide) ?_⟩
  rw [hr.2.2.2.2.2.2.1, nI_1, e6, nIle (by omega) (by omega)]
  exact ⟨fun hc => main 1 ⟨fun z => absurd z (by decide), fun z => absurd z hid⟩ (Or.inr hc), fun hc => k0 (fun z => z.elim hid hc)⟩
end LE
