/-! prefixes, rules, the ring of what is sent -/
theorem idx_at {α : Type} [BEq α] [LawfulBEq α] {l : List α} {x : α} {i : Nat} (hi : i < l.length) (hn : x ∉ l.take i) (he : l[i] = x) : l.idxOf x = i := by
  have e : l = l.take i ++ x :: l.drop (i + 1) := by
    rw [← he, ← List.drop_eq_getElem_cons hi, List.take_append_drop]
  rw [e, List.idxOf_append, if_neg hn]
  simp
  omega
def Px2 (σ : rs_Mem) (v1 v2 off : Nat) (l : List (Int32 × Int32)) : Prop := ∀ k (h : k < l.length), rs_I σ v1 (off + k) = l[k].1 ∧ rs_I σ v2 (off + k) = l[k].2
def RPx (σ : rs_Mem) (pre : List (Int32 × Int32)) (org : Nat → Bool) : Prop :=
  rs_I σ 2 3 = nI pre.length ∧ pre.length ≤ 12 ∧ (∀ k (h : k < pre.length), rs_I σ 3 k = pre[k].1 ∧ rs_I σ 4 k = pre[k].2) ∧ ∀ k, k < 12 → rs_I σ 5 k = b2i (org k)
theorem RPx.fr {A : Nat → Prop} {σ τ : rs_Mem} {pre : List (Int32 × Int32)} {org : Nat → Bool} (h : RPx σ pre org) (f : Fr A σ τ) (h2 : ¬ A 2) (h3 : ¬ A 3) (h4 : ¬ A 4) (h5 : ¬ A 5) : RPx τ pre org :=
  ⟨(f.I h2 _).trans h.1, h.2.1, fun k hk => ⟨(f.I h3 _).trans (h.2.2.1 k hk).1, (f.I h4 _).trans (h.2.2.1 k hk).2⟩, fun k hk => (f.I h5 _).trans (h.2.2.2 k hk)⟩
theorem P_Px_find {σ : rs_Mem} {pre : List (Int32 × Int32)} {org : Nat → Bool} {l a : Int32} {Q : Int32 → rs_Mem → Prop} (hG : Gr σ) (h : RPx σ pre org) (h1 : (l, a) ∈ pre → Q (nI (pre.idxOf (l, a))) σ) (h0 : (l, a) ∉ pre → Q (-1) σ) : F_Px_find NF 2 l a σ Q := by
  obtain ⟨a1, a2, a3, a4⟩ := h
  have key : ∀ d i, i + d = pre.length → (l, a) ∉ pre.take i → L_Px_find_2 NF Q (d + 1) 2 l a (nI i) σ := by
    intro d
    induction d with
    | zero =>
      intro i hi ht
      have e : i = pre.length := by omega
      subst e
      rw [List.take_length] at ht
      refine w_t ?_ (h0 ht)
      rw [a1]
      exact (nIle (by omega) (by omega)).mpr (by omega)
    | succ d ih =>
      intro i hi ht
      obtain ⟨c1, c2⟩ := a3 i (by omega)
      have step : pre[i]'(by omega) ≠ (l, a) → L_Px_find_2 NF Q (d + 1) 2 l a (nI (i + 1)) σ := fun hne => by
        refine ih (i + 1) (by omega) ?_
        rw [List.take_succ_eq_append_getElem (by omega)]
        simp only [List.mem_append, List.mem_singleton, not_or]
        exact ⟨ht, fun q => hne q.symm⟩
      refine w_f (fun h => by rw [a1] at h; have := (nIle (by omega) (by omega)).mp h; omega) ?_
      rw [gr_2_0 hG, gr_2_1 hG, nf_3, nf_4, nIc (by omega), c1, c2]
      refine ⟨vpn (by omega) (by omega), fun h x' e => ?_, fun h => ⟨vpn (by omega) (by omega), fun h2 x' e => ?_, fun h2 => ?_⟩⟩
      · subst e; rw [nI_1]; exact step (fun q => h (by rw [q]))
      · subst e; rw [nI_1]; exact step (fun q => h2 (by rw [q]))
      · have e : pre[i]'(by omega) = (l, a) := Prod.ext h h2
        have := h1 (e ▸ List.getElem_mem _)
        rw [idx_at (by omega) ht e] at this
        exact this
  exact ⟨_, key pre.length 0 (by omega) (by simp)⟩
/-- a new prefix behind the others -/
theorem RPx.add {σ σ1 σ2 σ3 : rs_Mem} {pre : List (Int32 × Int32)} {org : Nat → Bool} {l a : Int32} (h : RPx σ pre org) (hl : pre.length < 12) (e1 : σ1 = rs_sI σ 3 pre.length l) (e2 : σ2 = rs_sI σ1 4 pre.length a) (e3 : σ3 = rs_sI σ2 2 3 (nI (pre.length + 1))) : RPx σ3 (pre ++ [(l, a)]) org := by
  subst e1 e2 e3
  obtain ⟨a1, a2, a3, a4⟩ := h
  refine ⟨?_, ?_, fun k hk => ?_, fun k hk => ?_⟩
  · rw [List.length_append]; exact I_same
  · rw [List.length_append]; simp; omega
  · rw [List.length_append] at hk
    simp only [List.length_singleton] at hk
    by_cases e : k = pre.length
    · subst e
      simp [I_I]
    · have h3 := a3 k (by omega)
      rw [List.getElem_append_left (by omega)]
      simp [I_I, e, h3]
  · rw [I_ne (by omega), I_ne (by omega), I_ne (by omega)]; exact a4 k hk
theorem P_Px_learn {σ : rs_Mem} {pre : List (Int32 × Int32)} {org : Nat → Bool} {l a : Int32} {Q : Int32 → rs_Mem → Prop} (hG : Gr σ) (h : RPx σ pre org) (h1 : (l, a) ∈ pre → Q (nI (pre.idxOf (l, a))) σ) (h0 : (l, a) ∉ pre → pre.length = 12 → Q (-1) σ)
    (h2 : (l, a) ∉ pre → pre.length < 12 → ∀ τ, RPx τ (pre ++ [(l, a)]) org → Fr (fun u => 2 ≤ u ∧ u ≤ 4) σ τ → (∀ u j, rs_R τ u j = rs_R σ u j) → Q (nI pre.length) τ) : F_Px_learn NF 2 l a σ Q := by
  unfold F_Px_learn
  have a2 := h.2.1
  have a1 := h.1
  have hi : (l, a) ∈ pre → pre.idxOf (l, a) < pre.length := fun q => List.idxOf_lt_length_of_mem q
  refine P_Px_find hG h (fun q => v_f (nIm1 (by have := hi q; omega)) (h1 q)) (fun q => v_t rfl ?_)
  have e12 : (12 : Int32) = nI 12 := by decide
  rw [a1, e12, nIlt (by omega) (by omega), gr_2_0 hG, nf_3, nIc (by omega)]
  refine ⟨fun hl => ⟨vpn (by omega) (by omega), fun σ1 e1 => ?_⟩, fun hl => h0 q (by omega)⟩
  have hG1 : Gr σ1 := e1 ▸ Gr_I hG
  have b1 : rs_I σ1 2 3 = nI pre.length := by rw [e1, I_ne (by omega)]; exact a1
  rw [b1, gr_2_1 hG1, nf_4, nIc (by omega)]
  refine ⟨vpn (by omega) (by omega), fun σ2 e2 σ3 e3 => ?_⟩
  have b2 : rs_I σ2 2 3 = nI pre.length := by rw [e2, I_ne (by omega)]; exact b1
  rw [b2, nI_1] at e3
  have b3 : rs_I σ3 2 3 = nI (pre.length + 1) := by rw [e3]; exact I_same
  rw [b3, nI_pred]
  refine h2 q hl σ3 (h.add hl e1 e2 e3) ?_ (fun u j => by rw [e3, e2, e1]; rfl)
  rw [e3, e2, e1]
  exact ((Fr.rf.sI (by omega)).sI (by omega)).sI (by omega)
/-- rules at v -/
abbrev Ru : Type := Int32 × Int32 × Int32
def act : List Ru → Int32 → Int32 → Int32
  | [], _, _ => -1
  | q :: t, l, a => if isWi l a q.1 q.2.1 then q.2.2 else act t l a
theorem act_cons {q : Ru} {t : List Ru} {l a : Int32} : act (q :: t) l a = if isWi l a q.1 q.2.1 then q.2.2 else act t l a := rfl
def RuS (σ : rs_Mem) (v : Nat) : Prop := rs_R σ v 0 = v + 1 ∧ rs_R σ v 1 = v + 2 ∧ rs_R σ v 2 = v + 3 ∧ NF (v + 1) = 3 ∧ NF (v + 2) = 3 ∧ NF (v + 3) = 3
def RRu (σ : rs_Mem) (v : Nat) (l : List Ru) : Prop := rs_I σ v 3 = nI l.length ∧ l.length ≤ 3 ∧ ∀ k (h : k < l.length), rs_I σ (v + 1) k = l[k].1 ∧ rs_I σ (v + 2) k = l[k].2.1 ∧ rs_I σ (v + 3) k = l[k].2.2
theorem RuS_pe {σ : rs_Mem} (h : Gr σ) {p : Nat} (hp : p < 4) : RuS σ (pb p + 1) := ⟨gp_1_0 h hp, gp_1_1 h hp, gp_1_2 h hp, np_2 hp, np_3 hp, np_4 hp⟩
theorem RRu.fr {A : Nat → Prop} {σ τ : rs_Mem} {v : Nat} {l : List Ru} (h : RRu σ v l) (f : Fr A σ τ) (h0 : ¬ A v) (h1 : ¬ A (v + 1)) (h2 : ¬ A (v + 2)) (h3 : ¬ A (v + 3)) : RRu τ v l :=
  ⟨(f.I h0 _).trans h.1, h.2.1, fun k hk => ⟨(f.I h1 _).trans (h.2.2 k hk).1, (f.I h2 _).trans (h.2.2 k hk).2.1, (f.I h3 _).trans (h.2.2 k hk).2.2⟩⟩
theorem P_Ru_actionFor {σ : rs_Mem} {v : Nat} {l : List Ru} {x y : Int32} {Q : Int32 → rs_Mem → Prop} (hS : RuS σ v) (h : RRu σ v l) (k : Q (act l x y) σ) : F_Ru_actionFor NF v x y σ Q := by
  obtain ⟨s1, s2, s3, s4, s5, s6⟩ := hS
  obtain ⟨a1, a2, a3⟩ := h
  have key : ∀ d i, i + d = l.length → act l x y = act (l.drop i) x y → L_Ru_actionFor_2 NF Q (d + 1) v x y (nI i) σ := by
    intro d
    induction d with
    | zero =>
      intro i hi ht
      have e : i = l.length := by omega
      subst e
      rw [List.drop_length] at ht
      refine w_t ?_ ?_
      · rw [a1]; exact (nIle (by omega) (by omega)).mpr (by omega)
      · rw [ht] at k; exact k
    | succ d ih =>
      intro i hi ht
      obtain ⟨c1, c2, c3⟩ := a3 i (by omega)
      rw [List.drop_eq_getElem_cons (by omega)] at ht
      refine w_f (fun h => by rw [a1] at h; have := (nIle (by omega) (by omega)).mp h; omega) ?_
      rw [s1, s2, s4, s5, nIc (by omega), c1, c2]
      refine ⟨vpn (by omega) (by omega), vpn (by omega) (by omega), P_Sp_isWithin (fun q => ?_) (fun q => ?_)⟩
      · rw [s3, s6, c3]
        rw [act_cons, if_pos q] at ht
        rw [ht] at k
        exact w_f (by decide) ⟨vpn (by omega) (by omega), k⟩
      · rw [act_cons, if_neg q] at ht
        refine w_t rfl (fun x' e => ?_)
        subst e
        rw [nI_1]
        exact ih (i + 1) (by omega) ht
  exact ⟨_, key l.length 0 (by omega) rfl⟩
theorem P_Ru_clear {σ : rs_Mem} {v : Nat} {Q : rs_Mem → Prop} (k : ∀ τ, RRu τ v [] → Fr (fun u => u = v) σ τ → Gr τ → Q τ) (hG : Gr σ) : F_Ru_clear NF v σ Q := by
  intro τ e
  subst e
  exact k _ ⟨I_same, by simp, fun k h => absurd h (by simp)⟩ (Fr.rf.sI rfl) hG
theorem P_Ru_add {σ : rs_Mem} {v : Nat} {l : List Ru} {x y z : Int32} {Q : Int32 → rs_Mem → Prop} (hS : RuS σ v) (h : RRu σ v l) (k0 : l.length = 3 → Q 0 σ)
    (k1 : l.length < 3 → ∀ τ, RRu τ v (l ++ [(x, y, z)]) → Fr (fun u => v ≤ u ∧ u ≤ v + 3) σ τ → (∀ u j, rs_R τ u j = rs_R σ u j) → (∀ j, j ≠ 3 → rs_I τ v j = rs_I σ v j) → Q 1 τ) : F_Ru_add NF v x y z σ Q := by
  obtain ⟨s1, s2, s3, s4, s5, s6⟩ := hS
  obtain ⟨a1, a2, a3⟩ := h
  unfold F_Ru_add
  have e3 : (3 : Int32) = nI 3 := by decide
  rw [a1, e3, nIlt (by omega) (by omega), s1, s4, nIc (by omega)]
  refine ⟨fun hl => ⟨vpn (by omega) (by omega), fun σ1 e1 => ?_⟩, fun hl => k0 (by omega)⟩
  have b1 : rs_I σ1 v 3 = nI l.length := by rw [e1, I_ne (by omega)]; exact a1
  have r1 : rs_R σ1 v 1 = v + 2 := by rw [e1]; exact s2
  rw [b1, r1, s5, nIc (by omega)]
  refine ⟨vpn (by omega) (by omega), fun σ2 e2 => ?_⟩
  have b2 : rs_I σ2 v 3 = nI l.length := by rw [e2, I_ne (by omega)]; exact b1
  have r2 : rs_R σ2 v 2 = v + 3 := by rw [e2, e1]; exact s3
  rw [b2, r2, s6, nIc (by omega)]
  refine ⟨vpn (by omega) (by omega), fun σ3 e3' σ4 e4 => ?_⟩
  have b3 : rs_I σ3 v 3 = nI l.length := by rw [e3', I_ne (by omega)]; exact b2
  rw [b3, nI_1] at e4
  subst e1 e2 e3' e4
  refine k1 hl _ ⟨?_, ?_, fun k hk => ?_⟩ ((((Fr.rf.sI (by omega)).sI (by omega)).sI (by omega)).sI (by omega)) (fun _ _ => rfl) (fun j hj => ?_)
  · rw [List.length_append]; exact I_same
  · rw [List.length_append]; simp; omega
  · rw [List.length_append] at hk
    simp only [List.length_singleton] at hk
    by_cases e : k = l.length
    · subst e
      simp [I_I]
    · have h3 := a3 k (by omega)
      rw [List.getElem_append_left (by omega)]
      simp [I_I, e, h3]
  · rw [I_nk hj, I_ne (by omega), I_ne (by omega), I_ne (by omega)]
