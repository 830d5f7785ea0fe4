/-! an UPDATE in the class's cells -/
def FrU : Nat → Prop := fun u => 10 ≤ u ∧ u ≤ 14
def Sn (σ : rs_Mem) (m : Nat → Nat) (dn : List Nat) : Prop := ∀ x, x < 256 → rs_I σ 14 x = b2i (decide (x ∈ dn.map m))
theorem Sn.fr {A : Nat → Prop} {σ τ : rs_Mem} {m : Nat → Nat} {dn : List Nat} (h : Sn σ m dn) (f : Fr A σ τ) (hv : ¬ A 14) : Sn τ m dn := fun x hx => (f.I hv _).trans (h x hx)
/-- the message: its cell, its bytes -/
def Ms (σ : rs_Mem) (v n : Nat) (m : Nat → Nat) : Prop := rs_R σ 10 2 = v ∧ 28 < v ∧ NF v = 60 ∧ n ≤ 60 ∧ Mg σ v n m
theorem Ms.fr {A : Nat → Prop} {σ τ : rs_Mem} {v n : Nat} {m : Nat → Nat} (h : Ms σ v n m) (f : Fr A σ τ) (hv : ¬ A v) (hr : rs_R τ 10 2 = rs_R σ 10 2) : Ms τ v n m := ⟨hr.trans h.1, h.2.1, h.2.2.1, h.2.2.2.1, h.2.2.2.2.fr f hv⟩
section UP
variable {σ : rs_Mem} {v n : Nat} {m : Nat → Nat} {dn : List Nat}
theorem P_Up_listFault {i L w : Nat} {Q : Int32 → rs_Mem → Prop} (hG : Gr σ) (hM : Ms σ v n m) (hw : w = 12 ∨ w = 13) (hi : i + L ≤ n)
    (k0 : L ≤ NF w → (∀ j, j < L → numN (m (i + j))) → ∀ τ, Ar τ w 0 (sl m i L) → Fr (fun u => u = w) σ τ → (∀ u j, rs_R τ u j = rs_R σ u j) → Q 0 τ)
    (k1 : L ≤ NF w → ¬ (∀ j, j < L → numN (m (i + j))) → ∀ τ, Fr (fun u => u = w) σ τ → (∀ u j, rs_R τ u j = rs_R σ u j) → Q 11 τ)
    (k2 : ¬ L ≤ NF w → Q 5 σ) : F_Up_listFault NF 10 (nI L) (nI i) w σ Q := by
  obtain ⟨m1, m2, m3, m4, m5⟩ := hM
  have hNw : NF w ≤ 8 := by
    rcases hw with rfl | rfl
    · rw [nf_12]; omega
    · rw [nf_13]; omega
  unfold F_Up_listFault
  rw [nIle (by omega) (by omega)]
  refine ⟨fun hL => ?_, fun hL => k2 hL⟩
  have key : ∀ d j f τ, j + d = L → (∀ q, q < j → rs_I τ w q = nI (m (i + q))) → ((f = 0 ∧ ∀ q, q < j → numN (m (i + q))) ∨ (f = 11 ∧ ¬ (∀ q, q < L → numN (m (i + q))))) → Fr (fun u => u = w) σ τ → (∀ u j, rs_R τ u j = rs_R σ u j) → L_Up_listFault_14 NF Q (d + 1) 10 (nI L) (nI i) w f (nI j) τ := by
    intro d
    induction d with
    | zero =>
      intro j f τ hj g1 g2 g3 g4
      have e : j = L := by omega
      subst e
      refine w_t ((nIle (by omega) (by omega)).mpr (by omega)) ?_
      rcases g2 with ⟨rfl, g2⟩ | ⟨rfl, g2⟩
      · exact k0 hL g2 τ (fun q hq => by rw [sl_len] at hq; rw [Nat.zero_add, sl_get]; exact g1 q hq) g3 g4
      · exact k1 hL g2 τ g3 g4
    | succ d ih =>
      intro j f τ hj g1 g2 g3 g4
      refine w_f (fun h => by have := (nIle (by omega) (by omega)).mp h; omega) ?_
      rw [nI_add, g4, m1, m3, nIc (n := i + j) (by omega), nIc (n := j) (by omega), g3.I (by omega), (m5 (i + j) (by omega)).1]
      refine ⟨vpn (by omega) (by omega), vpn (by omega) (by omega), fun σ1 e1 => ⟨vpn (by omega) (by omega), ?_⟩⟩
      have h1 : rs_I σ1 w j = nI (m (i + j)) := by rw [e1]; exact I_same
      have hb := (m5 (i + j) (by omega)).2
      have n1 : ∀ q, q < j + 1 → rs_I σ1 w q = nI (m (i + q)) := fun q hq => by
        rw [e1]
        by_cases e : q = j
        · subst e; exact I_same
        · rw [I_nk e]; exact g1 q (by omega)
      have n3 : Fr (fun u => u = w) σ σ1 := by rw [e1]; exact g3.sI rfl
      have n4 : ∀ u j, rs_R σ1 u j = rs_R σ u j := fun u j => by rw [e1]; exact g4 u j
      rw [h1]
      refine P_Sp_isNumber (fun hn => w_f (by decide) (fun x ex => ?_)) (fun hn => w_t rfl (fun x ex => ?_))
      · subst ex
        rw [nI_1]
        rw [isNum_nI (by omega)] at hn
        refine ih (j + 1) f σ1 (by omega) n1 ?_ n3 n4
        rcases g2 with ⟨e, g2⟩ | g2
        · refine Or.inl ⟨e, fun q hq => ?_⟩
          by_cases e : q = j
          · subst e; exact hn
          · exact g2 q (by omega)
        · exact Or.inr g2
      · subst ex
        rw [nI_1]
        rw [isNum_nI (by omega)] at hn
        exact ih (j + 1) 11 σ1 (by omega) n1 (Or.inr ⟨rfl, fun z => hn (z j (by omega))⟩) n3 n4
  exact ⟨_, key L 0 0 σ (by omega) (fun q hq => by omega) (Or.inl ⟨rfl, fun q hq => by omega⟩) Fr.rf (fun _ _ => rfl)⟩
theorem nI_lit {x k : Nat} (hx : x < 1000) (hk : k < 1000) : (nI x = nI k) ↔ x = k := nIeq (by omega) (by omega)
/-- rtU behind one more attribute -/
theorem rtU_app {i : Nat} (h : m i ∉ dn.map m) : rtU m (dn ++ [i]) = (if m i = 1 then nI (m (i + 2)) else vlU m dn 1 0, if m i = 3 then nI (m (i + 2)) else vlU m dn 3 0, if m i = 4 then nI (m (i + 2)) else vlU m dn 4 (-1), if m i = 5 then nI (m (i + 2)) else vlU m dn 5 100, if m i = 9 then nI (m (i + 2)) else vlU m dn 9 0, if m i = 2 then sl m (i + 2) (m (i + 1)) else lsU m dn 2, if m i = 10 then sl m (i + 2) (m (i + 1)) else lsU m dn 10) := by
  unfold rtU
  rw [vlU_app h, vlU_app h, vlU_app h, vlU_app h, vlU_app h, lsU_app h, lsU_app h]
theorem P_Up_valueFault {x y : Nat} {r : Rt} {Q : Int32 → rs_Mem → Prop} (hG : Gr σ) (hy : y < 256) (hr : RRt σ 11 r) (hx : x = 1 ∨ x = 3 ∨ x = 4 ∨ x = 5 ∨ x = 9)
    (kk : ∀ τ f, f = (if x = 1 then (if 2 < y then 6 else 0) else if x = 3 then (if ¬ numN y ∨ y = 7 then 8 else 0) else if x = 9 then (if ¬ numN y then 9 else 0) else (0 : Int32)) →
      RRt τ 11 (if x = 1 then nI y else rtO r, if x = 3 then nI y else rtN r, if x = 4 then nI y else rtM r, if x = 5 then nI y else rtP r, if x = 9 then nI y else rtS r, rtA r, rtC r) → Fr (fun u => u = 11) σ τ → (∀ u j, rs_R τ u j = rs_R σ u j) → Q f τ) : F_Up_valueFault NF 10 (nI x) (nI y) σ Q := by
  have e2 : (2 : Int32) = nI 2 := by decide
  have e7 : (7 : Int32) = nI 7 := by decide
  have i1 : (1 : Int32) = nI 1 := by decide
  have i3 : (3 : Int32) = nI 3 := by decide
  have i4 : (4 : Int32) = nI 4 := by decide
  have i5 : (5 : Int32) = nI 5 := by decide
  have fr : ∀ k, Fr (fun u => u = 11) σ (rs_sI σ 11 k (nI y)) := fun k => Fr.sI (A := fun u => u = 11) Fr.rf rfl
  unfold F_Up_valueFault
  rw [gr_10_0 hG]
  have ti : (nI x).toInt = (x : Int) := nI_toInt (by omega)
  rw [ti]
  rcases hx with rfl | rfl | rfl | rfl | rfl
  · refine ⟨fun z => by omega, fun _ τ e => ?_, fun z => by rw [e2, nI_lit (by omega) (by omega)] at z; omega, fun z => by rw [i3, nI_lit (by omega) (by omega)] at z; omega, fun z => by rw [i4, nI_lit (by omega) (by omega)] at z; omega, fun z => by rw [i5, nI_lit (by omega) (by omega)] at z; omega⟩
    subst e
    rw [e2, nIlt (by omega) (by omega)]
    exact ⟨fun z => kk _ _ (by simp [z]) (by simpa using hr.sO) (fr _) (fun _ _ => rfl), fun z => kk _ _ (by simp [z]) (by simpa using hr.sO) (fr _) (fun _ _ => rfl)⟩
  · refine ⟨fun z => by omega, fun z => by rw [i1, nI_lit (by omega) (by omega)] at z; omega, fun z => by rw [e2, nI_lit (by omega) (by omega)] at z; omega, fun _ τ e => ?_, fun z => by rw [i4, nI_lit (by omega) (by omega)] at z; omega, fun z => by rw [i5, nI_lit (by omega) (by omega)] at z; omega⟩
    subst e
    refine P_Sp_isNumber (fun hn => w_f (by decide) ?_) (fun hn => w_t rfl ?_)
    · rw [isNum_nI (by omega)] at hn
      rw [e7, nI_lit (by omega) (by omega)]
      exact ⟨fun z => kk _ _ (by simp [z]) (by simpa using hr.sN) (fr _) (fun _ _ => rfl), fun z => kk _ _ (by have := hn; simp [z]; omega) (by simpa using hr.sN) (fr _) (fun _ _ => rfl)⟩
    · rw [isNum_nI (by omega)] at hn
      exact kk _ _ (by rw [if_neg (by omega), if_pos rfl, if_pos (Or.inl hn)]) (by simpa using hr.sN) (fr _) (fun _ _ => rfl)
  · refine ⟨fun z => by omega, fun z => by rw [i1, nI_lit (by omega) (by omega)] at z; omega, fun z => by rw [e2, nI_lit (by omega) (by omega)] at z; omega, fun z => by rw [i3, nI_lit (by omega) (by omega)] at z; omega, fun _ τ e => ?_, fun z => by rw [i5, nI_lit (by omega) (by omega)] at z; omega⟩
    subst e
    exact kk _ _ (by simp) (by simpa using hr.sM) (fr _) (fun _ _ => rfl)
  · refine ⟨fun z => by omega, fun z => by rw [i1, nI_lit (by omega) (by omega)] at z; omega, fun z => by rw [e2, nI_lit (by omega) (by omega)] at z; omega, fun z => by rw [i3, nI_lit (by omega) (by omega)] at z; omega, fun z => by rw [i4, nI_lit (by omega) (by omega)] at z; omega, fun _ τ e => ?_⟩
    subst e
    exact kk _ _ (by simp) (by simpa using hr.sP) (fr _) (fun _ _ => rfl)
  · refine ⟨fun _ τ e => ?_, fun z => by rw [i1, nI_lit (by omega) (by omega)] at z; omega, fun z => by rw [e2, nI_lit (by omega) (by omega)] at z; omega, fun z => by rw [i3, nI_lit (by omega) (by omega)] at z; omega, fun z => by rw [i4, nI_lit (by omega) (by omega)] at z; omega, fun z => by rw [i5, nI_lit (by omega) (by omega)] at z; omega⟩
    subst e
    refine P_Sp_isNumber (fun hn => w_f (by decide) ?_) (fun hn => w_t rfl ?_)
    · rw [isNum_nI (by omega)] at hn
      exact kk _ _ (by rw [if_neg (by omega), if_neg (by omega), if_pos rfl, if_neg (fun z => z hn)]) (by simpa using hr.sS) (fr _) (fun _ _ => rfl)
    · rw [isNum_nI (by omega)] at hn
      exact kk _ _ (by rw [if_neg (by omega), if_neg (by omega), if_pos rfl, if_pos hn]) (by simpa using hr.sS) (fr _) (fun _ _ => rfl)
end UP
