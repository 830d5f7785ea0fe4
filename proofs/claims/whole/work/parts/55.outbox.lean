/-! the ring of what is sent; decay -/
theorem nI_mod200 {n : Nat} (h : n < 500) : nI n - nI n / 200 * 200 = nI (n % 200) := (by decide +kernel : ∀ n, n < 500 → nI n - nI n / 200 * 200 = nI (n % 200)) n h
theorem ite_lt {α : Type} {A B : α} {k i : Nat} (h : k ≠ i) : (if k < i + 1 then A else B) = if k < i then A else B := by
  by_cases e : k < i
  · rw [if_pos e, if_pos (by omega)]
  · rw [if_neg e, if_neg (by omega)]
def ROf (σ : rs_Mem) (v f : Nat) (l : List Int32) : Prop := rs_I σ v 1 = nI f ∧ f < 200 ∧ rs_I σ v 2 = nI l.length ∧ l.length ≤ 200 ∧ ∀ k (h : k < l.length), rs_I σ (v + 1) ((f + k) % 200) = l[k]
def ROb (σ : rs_Mem) (v : Nat) (l : List Int32) : Prop := ∃ f, ROf σ v f l
theorem ROf.fr {A : Nat → Prop} {σ τ : rs_Mem} {v f : Nat} {l : List Int32} (h : ROf σ v f l) (g : Fr A σ τ) (h0 : ¬ A v) (h1 : ¬ A (v + 1)) : ROf τ v f l :=
  ⟨(g.I h0 _).trans h.1, h.2.1, (g.I h0 _).trans h.2.2.1, h.2.2.2.1, fun k hk => (g.I h1 _).trans (h.2.2.2.2 k hk)⟩
theorem ROb.fr {A : Nat → Prop} {σ τ : rs_Mem} {v : Nat} {l : List Int32} (h : ROb σ v l) (g : Fr A σ τ) (h0 : ¬ A v) (h1 : ¬ A (v + 1)) : ROb τ v l := by
  obtain ⟨f, h⟩ := h
  exact ⟨f, h.fr g h0 h1⟩
theorem ROf.push {σ : rs_Mem} {v f : Nat} {l : List Int32} {x : Int32} (h : ROf σ v f l) (hl : l.length < 200) : ROf (rs_sI (rs_sI σ (v + 1) ((f + l.length) % 200) x) v 2 (nI (l.length + 1))) v f (l ++ [x]) := by
  obtain ⟨a1, a2, a3, a4, a5⟩ := h
  refine ⟨?_, a2, ?_, ?_, fun k hk => ?_⟩
  · rw [I_nk (by omega), I_ne (by omega)]; exact a1
  · rw [List.length_append]; exact I_same
  · rw [List.length_append]; simp; omega
  · rw [List.length_append] at hk
    simp only [List.length_singleton] at hk
    rw [I_ne (by omega)]
    by_cases e : k = l.length
    · subst e
      rw [I_same]; simp
    · rw [I_nk (by omega), List.getElem_append_left (by omega)]
      exact a5 k (by omega)
theorem P_Ob_put {σ : rs_Mem} {v v1 : Nat} {l m : List Int32} {Q : Int32 → rs_Mem → Prop} (hs : rs_R σ v 0 = v + 1) (hn : NF (v + 1) = 200) (h : ROb σ v l) (hm : Ar σ v1 0 m) (hml : m.length ≤ NF v1) (hb : NF v1 < 1000) (hd : v1 ≠ v) (hd2 : v1 ≠ v + 1)
    (k1 : l.length + m.length ≤ 200 → ∀ τ, ROb τ v (l ++ m) → Fr (fun u => u = v ∨ u = v + 1) σ τ → (∀ u j, rs_R τ u j = rs_R σ u j) → Q 1 τ) (k0 : ¬ l.length + m.length ≤ 200 → Q 0 σ) : F_Ob_put NF v v1 (nI m.length) σ Q := by
  obtain ⟨f, h⟩ := h
  have h2 := h
  obtain ⟨a1, a2, a3, a4, a5⟩ := h2
  have e200 : (200 : Int32) = nI 200 := by decide
  refine w_f (nI_pos (by omega)) (w_f (fun q => ?_) ?_)
  · rw [nIlt (by omega) (by omega)] at q; omega
  rw [a3, nI_add, e200, nIle (by omega) (by omega)]
  refine ⟨fun hl => ?_, fun hl => k0 hl⟩
  have key : ∀ d i τ, i + d = m.length → ROf τ v f (l ++ m.take i) → Fr (fun u => u = v ∨ u = v + 1) σ τ → (∀ u j, rs_R τ u j = rs_R σ u j) → L_Ob_put_26 NF Q (d + 1) v v1 (nI m.length) (nI i) τ := by
    intro d
    induction d with
    | zero =>
      intro i τ hi g1 g2 g3
      have e : i = m.length := by omega
      subst e
      rw [List.take_length] at g1
      exact w_t ((nIle (by omega) (by omega)).mpr (by omega)) (k1 hl τ ⟨f, g1⟩ g2 g3)
    | succ d ih =>
      intro i τ hi g1 g2 g3
      have hlen : (l ++ m.take i).length = l.length + i := by rw [List.length_append, List.length_take]; omega
      refine w_f (fun h => by have := (nIle (by omega) (by omega)).mp h; omega) ⟨vpn (by omega) (by omega), ?_⟩
      rw [g1.1, g1.2.2.1, hlen, nI_add, nI_mod200 (by omega), g3, hs, hn]
      refine ⟨vpn (Nat.mod_lt _ (by omega)) (by omega), fun σ1 e1 σ2 e2 x ex => ?_⟩
      subst ex
      rw [nIc (by omega), nIc (by have := Nat.mod_lt (f + (l.length + i)) (by omega : 200 > 0); omega), g2.I (by omega), hm.get0 (by omega)] at e1
      have b2 : rs_I σ1 v 2 = nI (l.length + i) := by rw [e1, I_ne (by omega), g1.2.2.1, hlen]
      rw [b2, nI_1] at e2
      rw [nI_1]
      have g4 := g1.push (x := m[i]) (by omega)
      rw [hlen, ← e1, ← e2] at g4
      refine ih (i + 1) σ2 (by omega) ?_ ?_ (fun u j => by rw [e2, e1]; exact g3 u j)
      · rw [List.take_succ_eq_append_getElem (by omega), ← List.append_assoc]; exact g4
      · rw [e2, e1]; exact (g2.sI (Or.inr rfl)).sI (Or.inl rfl)
  exact ⟨_, key m.length 0 σ (by omega) (by simpa using h) Fr.rf (fun _ _ => rfl)⟩
theorem P_Ob_pull {σ : rs_Mem} {v : Nat} {l : List Int32} {Q : Int32 → rs_Mem → Prop} (hs : rs_R σ v 0 = v + 1) (hn : NF (v + 1) = 200) (h : ROb σ v l) (k0 : l = [] → Q (-1) σ)
    (k1 : ∀ x t, l = x :: t → ∀ τ, ROb τ v t → Fr (fun u => u = v) σ τ → (∀ u j, rs_R τ u j = rs_R σ u j) → Q x τ) : F_Ob_pull NF v σ Q := by
  obtain ⟨f, a1, a2, a3, a4, a5⟩ := h
  unfold F_Ob_pull
  rw [a3]
  cases hl : l with
  | nil => exact v_t (by decide) (k0 hl)
  | cons x t =>
    have hlen : l.length = t.length + 1 := by rw [hl]; rfl
    rw [← hl]
    refine v_f (nI_ne0 (by omega) (by omega)) ?_
    rw [hs, hn, a1, nIc (by omega)]
    refine ⟨vpn a2 (by omega), fun y ey σ1 e1 σ2 e2 => ?_⟩
    have h0 := a5 0 (by omega)
    have ef : (f + 0) % 200 = f := by omega
    rw [ef] at h0
    have hx : l[0]'(by omega) = x := by simp [hl]
    rw [hx] at h0
    rw [h0] at ey
    subst ey
    rw [nI_1, nI_mod200 (by omega)] at e1
    have b2 : rs_I σ1 v 2 = nI (t.length + 1) := by rw [e1, I_nk (by omega), a3, hlen]
    rw [b2, nI_pred] at e2
    refine k1 y t hl σ2 ⟨(f + 1) % 200, ?_, Nat.mod_lt _ (by omega), ?_, by omega, fun k hk => ?_⟩ (by rw [e2, e1]; exact Fr.sI (A := fun u => u = v) (Fr.sI (A := fun u => u = v) Fr.rf rfl) rfl) (fun u j => by rw [e2, e1]; rfl)
    · rw [e2, I_nk (by omega), e1, I_same]
    · rw [e2, I_same]
    · rw [e2, I_ne (by omega), e1, I_ne (by omega)]
      have h3 := a5 (k + 1) (by omega)
      have e3 : ((f + 1) % 200 + k) % 200 = (f + (k + 1)) % 200 := by omega
      rw [e3, h3]
      simp [hl]
theorem ROb.len {σ : rs_Mem} {v : Nat} {l : List Int32} (h : ROb σ v l) : rs_I σ v 2 = nI l.length ∧ l.length ≤ 200 := by
  obtain ⟨f, a1, a2, a3, a4, a5⟩ := h
  exact ⟨a3, a4⟩
/-- all entries of what came in -/
def RIn (σ : rs_Mem) (b : Nat) (inc : Nat → Option Rt) (pen : Nat → UInt64) (dmp : Nat → Bool) : Prop := ∀ k, k < 12 → RI1 σ b k (inc k) (pen k) (dmp k)
def decP (x : UInt64) : UInt64 := FP.dmul x 4606056518893174784
theorem P_In_decay {σ : rs_Mem} {p : Nat} {inc : Nat → Option Rt} {pen : Nat → UInt64} {dmp : Nat → Bool} {Q : rs_Mem → Prop} (hG : Gr σ) (hp : p < 4) (h : RIn σ (pb p) inc pen dmp) (hn : ∀ k, k < 12 → vf_n64 (pen k))
    (kk : ∀ τ, RIn τ (pb p) inc (fun k => decP (pen k)) (fun k => dmpD (dmp k) (decP (pen k))) → Fr (fun u => u = pb p + 11 ∨ u = pb p + 13) σ τ → Gr τ → Q τ) : F_In_decay NF (pb p + 9) σ Q := by
  have e12 : (12 : Int32) = nI 12 := by decide
  have key : ∀ d i τ, i + d = 12 → (∀ k, k < 12 → RI1 τ (pb p) k (inc k) (if k < i then decP (pen k) else pen k) (if k < i then dmpD (dmp k) (decP (pen k)) else dmp k)) → Fr (fun u => u = pb p + 11 ∨ u = pb p + 13) σ τ → Gr τ → L_In_decay_2 NF Q (d + 1) (pb p + 9) (nI i) τ := by
    intro d
    induction d with
    | zero =>
      intro i τ hi g1 g2 g3
      have e : i = 12 := by omega
      subst e
      refine w_t (by decide) (kk τ (fun k hk => ?_) g2 g3)
      have := g1 k hk
      rw [if_pos hk, if_pos hk] at this
      exact this
    | succ d ih =>
      intro i τ hi g1 g2 g3
      have v12 : vp_in (nI i) 12 := vpn (by omega) (by omega)
      have gi := g1 i (by omega)
      rw [if_neg (by omega), if_neg (by omega)] at gi
      obtain ⟨c1, c2, c3, c4⟩ := gi
      refine w_f (fun h => by rw [e12, nIle (by omega) (by omega)] at h; omega) ?_
      rw [gp_9_3 g3 hp, np_13 hp, nIc (by omega), c3]
      refine ⟨v12, nn_dec (hn i (by omega)), v12, fun σ1 e1 => ?_⟩
      have hG1 : Gr σ1 := e1 ▸ g3
      have b1 : rs_I σ1 (pb p + 11) i = b2i (dmp i) := by rw [e1]; exact c4
      have b3 : rs_D σ1 (pb p + 13) i = decP (pen i) := by rw [e1]; exact if_pos ⟨rfl, rfl⟩
      rw [gp_9_1 hG1 hp, np_11 hp, gp_9_3 hG1 hp, np_13 hp, b1, b3]
      have fin : ∀ x : Bool, x = dmpD (dmp i) (decP (pen i)) → L_In_decay_2 NF Q (d + 1) (pb p + 9) (nI (i + 1)) (rs_sI σ1 (pb p + 11) i (b2i x)) := fun x hx => by
        refine ih (i + 1) _ (by omega) (fun k hk => ?_) (by rw [e1]; exact (g2.sD (Or.inr rfl)).sI (Or.inl rfl)) (Gr_I hG1)
        have gk := g1 k hk
        have f1 : Fp (fun u j => (u = pb p + 11 ∨ u = pb p + 13) ∧ j = i) τ (rs_sI σ1 (pb p + 11) i (b2i x)) := by
          rw [e1]; exact (Fp.rf.sD ⟨Or.inr rfl, rfl⟩).sI ⟨Or.inl rfl, rfl⟩
        by_cases hki : k = i
        · subst hki
          rw [if_pos (by omega), if_pos (by omega)]
          refine ⟨?_, fun r e => (c2 r e).fp f1 (fun j q => by omega) (fun j q => by omega) (fun j q => by omega), ?_, ?_⟩
          · rw [I_ne (by omega), e1]; exact c1
          · rw [D_I]; exact b3
          · rw [I_same, hx]
        · rw [ite_lt hki, ite_lt hki]
          exact gk.fp f1 (by omega) (by omega) (by omega) (fun u j q1 q2 q => by omega)
      have e57 : ∀ w, rs_sI σ1 (pb p + 11) (nI i).toNatClampNeg w = rs_sI σ1 (pb p + 11) i w := fun w => by rw [nIc (by omega)]
      have lo : dmpD (dmp i) (decP (pen i)) = false → B_In_decay_55 NF (L_In_decay_2 NF Q (d + 1)) Q (pb p + 9) (nI i) (pb p + 11) (nI i) σ1 := fun hf => by
        refine ⟨by rw [np_11 hp]; exact v12, fun σ2 e2 x ex => ?_⟩
        subst ex
        rw [nIc (by omega)] at e2
        rw [nI_1, e2]
        exact fin false hf.symm
      refine ⟨v12, fun q => lo ?_, fun q => ⟨v12, fun q2 => lo ?_, fun q2 => ⟨v12, fun σ2 e2 x ex => ?_⟩⟩⟩
      · unfold dmpD; rw [b2i_ne.mp q]; rfl
      · unfold dmpD; simp [q2]
      · subst ex
        rw [e2, nI_1]
        refine fin true ?_
        have : dmp i = true := by
          cases hd : dmp i with
          | true => rfl
          | false => rw [hd] at q; exact absurd rfl q
        unfold dmpD; simp [q2, this]
  exact ⟨_, key 12 0 σ rfl (fun k hk => by rw [if_neg (by omega), if_neg (by omega)]; exact h k hk) Fr.rf hG⟩
