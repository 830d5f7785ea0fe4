/-! doubles; the routes that came in -/
theorem nn_iff {a : UInt64} : vf_n64 a ↔ Jvm.FP.Core.dIsNaN a = false := by
  have h := Jvm.FP.Core.isNaN_bits a
  have e : (a &&& 0x7fffffffffffffff).toNat = a.toNat % 2 ^ 63 := by
    rw [UInt64.toNat_and]
    exact Nat.and_two_pow_sub_one_eq_mod a.toNat 63
  have e2 : (0x7ff0000000000000 : UInt64).toNat = 9218868437227405312 := by decide
  unfold vf_n64
  rw [UInt64.le_iff_toNat_le, e, e2]
  cases hd : Jvm.FP.Core.dIsNaN a with
  | true =>
    have := h.mp hd
    constructor
    · intro q; omega
    · intro q; cases q
  | false =>
    refine ⟨fun _ => rfl, fun _ => ?_⟩
    refine Nat.not_lt.mp (fun q => ?_)
    have := h.mpr q
    rw [hd] at this
    cases this
theorem fin_1000 : Jvm.FP.Core.DFin 4652007308841189376 := (Jvm.FP.Core.fin_bits _).mpr (by decide)
theorem fin_500 : Jvm.FP.Core.DFin 4647503709213818880 := (Jvm.FP.Core.fin_bits _).mpr (by decide)
theorem fin_0875 : Jvm.FP.Core.DFin 4606056518893174784 := (Jvm.FP.Core.fin_bits _).mpr (by decide)
theorem nz_0875 : ¬ Jvm.FP.Core.DZero 4606056518893174784 := fun h => by
  have h2 := Jvm.FP.Core.zero_bits (Jvm.FP.Core.zero_iff.mpr h)
  revert h2
  decide
theorem nn_add {a b : UInt64} (h : vf_n64 a) (hb : Jvm.FP.Core.DFin b) : vf_n64 (FP.dadd a b) := nn_iff.mpr (Jvm.FP.Core.dadd_out (nn_iff.mp h) hb)
theorem nn_dec {a : UInt64} (h : vf_n64 a) : vf_n64 (FP.dmul a 4606056518893174784) := nn_iff.mpr (Jvm.FP.Core.dmul_out' (nn_iff.mp h) fin_0875 nz_0875)
theorem nn_0 : vf_n64 0 := by unfold vf_n64; decide
def dmpG (d : Bool) (x : UInt64) : Bool := d || decide (¬ (Op.cmpValue (FP.dcmp x 4656510908468559872) .l ≤ 0))
def dmpD (d : Bool) (x : UInt64) : Bool := d && decide (¬ (Op.cmpValue (FP.dcmp x 4649808285585637376) .l < 0))
/-- two memories that differ at places of P alone -/
def Fp (P : Nat → Nat → Prop) (σ τ : rs_Mem) : Prop := ∀ u j, ¬ P u j → rs_I τ u j = rs_I σ u j ∧ rs_L τ u j = rs_L σ u j ∧ rs_D τ u j = rs_D σ u j ∧ rs_R τ u j = rs_R σ u j
section FP1
variable {P P' : Nat → Nat → Prop} {σ τ ρ : rs_Mem}
theorem Fp.rf : Fp P σ σ := fun _ _ _ => ⟨rfl, rfl, rfl, rfl⟩
theorem Fp.tr (h : Fp P σ τ) (g : Fp P τ ρ) : Fp P σ ρ := fun u j hu => by
  have h1 := h u j hu; have h2 := g u j hu
  exact ⟨h2.1.trans h1.1, h2.2.1.trans h1.2.1, h2.2.2.1.trans h1.2.2.1, h2.2.2.2.trans h1.2.2.2⟩
theorem Fp.mono (h : Fp P σ τ) (hP : ∀ u j, P u j → P' u j) : Fp P' σ τ := fun u j hu => h u j (fun q => hu (hP u j q))
theorem Fp.fr {A : Nat → Prop} (h : Fp P σ τ) (hP : ∀ u j, P u j → A u) : Fr A σ τ := fun u hu j => h u j (fun q => hu (hP u j q))
theorem Fr.fp {A : Nat → Prop} (h : Fr A σ τ) : Fp (fun u _ => A u) σ τ := fun u j hu => h u hu j
theorem Fp.I (h : Fp P σ τ) {u j : Nat} (hu : ¬ P u j) : rs_I τ u j = rs_I σ u j := (h u j hu).1
theorem Fp.L (h : Fp P σ τ) {u j : Nat} (hu : ¬ P u j) : rs_L τ u j = rs_L σ u j := (h u j hu).2.1
theorem Fp.D (h : Fp P σ τ) {u j : Nat} (hu : ¬ P u j) : rs_D τ u j = rs_D σ u j := (h u j hu).2.2.1
theorem Fp.R (h : Fp P σ τ) {u j : Nat} (hu : ¬ P u j) : rs_R τ u j = rs_R σ u j := (h u j hu).2.2.2
theorem Fp.sI {a k : Nat} {v : Int32} (h : Fp P σ τ) (ha : P a k) : Fp P σ (rs_sI τ a k v) := h.tr fun u j hu => ⟨if_neg (fun q => hu (by rw [q.1, q.2]; exact ha)), rfl, rfl, rfl⟩
theorem Fp.sL {a k : Nat} {v : Int64} (h : Fp P σ τ) (ha : P a k) : Fp P σ (rs_sL τ a k v) := h.tr fun u j hu => ⟨rfl, if_neg (fun q => hu (by rw [q.1, q.2]; exact ha)), rfl, rfl⟩
theorem Fp.sD {a k : Nat} {v : UInt64} (h : Fp P σ τ) (ha : P a k) : Fp P σ (rs_sD τ a k v) := h.tr fun u j hu => ⟨rfl, rfl, if_neg (fun q => hu (by rw [q.1, q.2]; exact ha)), rfl⟩
theorem Fp.sR {a k v : Nat} (h : Fp P σ τ) (ha : P a k) : Fp P σ (rs_sR τ a k v) := h.tr fun u j hu => ⟨rfl, rfl, rfl, if_neg (fun q => hu (by rw [q.1, q.2]; exact ha))⟩
theorem Fp.cp {a b n : Nat} (h : Fp P σ τ) (ha : ∀ j, j < n → P b j) : Fp P σ (rs_cp τ a b n) := h.tr fun u j hu => ⟨if_neg (fun q => hu (by rw [q.1]; exact ha j q.2)), rfl, rfl, rfl⟩
end FP1
/-- what came in from a peer (its cells from b on) for the prefix k -/
def RI1 (σ : rs_Mem) (b k : Nat) (o : Option Rt) (pe : UInt64) (d : Bool) : Prop :=
  rs_I σ (b + 12) k = b2i o.isSome ∧ (∀ r, o = some r → RRt σ (b + 14 + 3 * k) r) ∧ rs_D σ (b + 13) k = pe ∧ rs_I σ (b + 11) k = b2i d
theorem RRt.fp {P : Nat → Nat → Prop} {σ τ : rs_Mem} {v : Nat} {r : Rt} (h : RRt σ v r) (f : Fp P σ τ) (h0 : ∀ j, ¬ P v j) (h1 : ∀ j, ¬ P (v + 1) j) (h2 : ∀ j, ¬ P (v + 2) j) : RRt τ v r :=
  h.fr (A := fun u => ∃ j, P u j) (f.fr fun u j q => ⟨j, q⟩) (fun ⟨j, q⟩ => h0 j q) (fun ⟨j, q⟩ => h1 j q) (fun ⟨j, q⟩ => h2 j q)
theorem RI1.fp {P : Nat → Nat → Prop} {σ τ : rs_Mem} {b k : Nat} {o : Option Rt} {pe : UInt64} {d : Bool} (h : RI1 σ b k o pe d) (f : Fp P σ τ) (h1 : ¬ P (b + 11) k) (h2 : ¬ P (b + 12) k) (h3 : ¬ P (b + 13) k) (h4 : ∀ u j, b + 14 + 3 * k ≤ u → u ≤ b + 14 + 3 * k + 2 → ¬ P u j) : RI1 τ b k o pe d :=
  ⟨(f.I h2).trans h.1, fun r e => (h.2.1 r e).fp f (fun j => h4 _ j (by omega) (by omega)) (fun j => h4 _ j (by omega) (by omega)) (fun j => h4 _ j (by omega) (by omega)), (f.D h3).trans h.2.2.1, (f.I h1).trans h.2.2.2⟩
section IN1
variable {σ : rs_Mem} {p k : Nat} {o : Option Rt} {pe : UInt64} {d : Bool}
theorem P_In_has {Q : Int32 → rs_Mem → Prop} (hG : Gr σ) (hp : p < 4) (hk : k < 12) (h : RI1 σ (pb p) k o pe d) (kk : Q (b2i o.isSome) σ) : F_In_has NF (pb p + 9) (nI k) σ Q := by
  unfold F_In_has
  rw [gp_9_2 hG hp, np_12 hp, nIc (by omega), h.1]
  have e12 : (12 : Int32) = nI 12 := by decide
  refine w_f (nI_pos (by omega)) (w_f (fun q => ?_) ⟨vpn (by omega) (by omega), ?_⟩)
  · rw [e12, nIle (by omega) (by omega)] at q; omega
  · cases o with
    | none => exact w_t rfl kk
    | some r => exact w_f (fun q => absurd q (show ¬ (1 : Int32) = 0 by decide)) kk
theorem P_In_hasN {Q : Int32 → rs_Mem → Prop} (kk : Q 0 σ) : F_In_has NF (pb p + 9) (-1) σ Q := w_t (by decide) kk
theorem P_In_penaltyAt {Q : UInt64 → rs_Mem → Prop} (hG : Gr σ) (hp : p < 4) (hk : k < 12) (h : RI1 σ (pb p) k o pe d) (kk : Q pe σ) : F_In_penaltyAt NF (pb p + 9) (nI k) σ Q := by
  unfold F_In_penaltyAt
  rw [gp_9_3 hG hp, np_13 hp, nIc (by omega), h.2.2.1]
  have e12 : (12 : Int32) = nI 12 := by decide
  refine w_f (nI_pos (by omega)) (w_f (fun q => ?_) ⟨vpn (by omega) (by omega), kk⟩)
  rw [e12, nIle (by omega) (by omega)] at q; omega
theorem P_In_penaltyN {Q : UInt64 → rs_Mem → Prop} (kk : Q FP.dconst0 σ) : F_In_penaltyAt NF (pb p + 9) (-1) σ Q := w_t (by decide) kk
/-- the places that a change of one entry of what came in may write -/
def PI (b k : Nat) : Nat → Nat → Prop := fun u j => ((u = b + 11 ∨ u = b + 12 ∨ u = b + 13) ∧ j = k) ∨ (b + 14 + 3 * k ≤ u ∧ u ≤ b + 14 + 3 * k + 2)
theorem P_In_grow {m : UInt64} {Q : rs_Mem → Prop} (hG : Gr σ) (hp : p < 4) (hk : k < 12) (h : RI1 σ (pb p) k o pe d) (hn : vf_n64 pe) (hm : Jvm.FP.Core.DFin m)
    (kk : ∀ τ, RI1 τ (pb p) k o (FP.dadd pe m) (dmpG d (FP.dadd pe m)) → Fp (PI (pb p) k) σ τ → Gr τ → Q τ) : F_In_grow NF (pb p + 9) (nI k) m σ Q := by
  obtain ⟨a1, a2, a3, a4⟩ := h
  unfold F_In_grow
  have v12 : vp_in (nI k) 12 := vpn (by omega) (by omega)
  rw [gp_9_3 hG hp, np_13 hp, nIc (by omega), a3]
  refine ⟨v12, nn_add hn hm, v12, fun σ1 e1 => ?_⟩
  have hG1 : Gr σ1 := e1 ▸ hG
  have b1 : rs_I σ1 (pb p + 11) k = b2i d := by rw [e1]; exact a4
  have b3 : rs_D σ1 (pb p + 13) k = FP.dadd pe m := by rw [e1]; exact if_pos ⟨rfl, rfl⟩
  rw [gp_9_1 hG1 hp, np_11 hp, gp_9_3 hG1 hp, np_13 hp, b1, b3]
  have fin : ∀ x : Bool, x = dmpG d (FP.dadd pe m) → Q (rs_sI σ1 (pb p + 11) k (b2i x)) := fun x hx => by
    subst hx
    refine kk _ ⟨?_, fun r e => ?_, ?_, ?_⟩ ?_ (Gr_I hG1)
    · rw [I_ne (by omega), e1]; exact a1
    · refine (a2 r e).fp (P := fun u _ => u = pb p + 11 ∨ u = pb p + 13) ?_ (fun j q => by omega) (fun j q => by omega) (fun j q => by omega)
      rw [e1]
      exact (Fp.rf.sD (Or.inr rfl)).sI (Or.inl rfl)
    · rw [D_I]; exact b3
    · exact I_same
    · rw [e1]
      exact (Fp.rf.sD (by unfold PI; omega)).sI (by unfold PI; omega)
  refine ⟨v12, fun q => ⟨v12, fun σ2 e2 => ?_⟩, fun q => ⟨v12, fun q2 => ⟨v12, fun σ2 e2 => ?_⟩, fun q2 => ⟨v12, fun σ2 e2 => ?_⟩⟩⟩
  · subst e2
    refine fin true ?_
    cases d with
    | true => rfl
    | false => exact absurd rfl q
  · subst e2
    refine fin false ?_
    cases d with
    | true => exact absurd q (by decide)
    | false => unfold dmpG; simp [q2]
  · subst e2
    refine fin true ?_
    unfold dmpG; simp [q2]
theorem P_In_withdraw {Q : rs_Mem → Prop} (hG : Gr σ) (hp : p < 4) (hk : k < 12) (h : RI1 σ (pb p) k o pe d) (hn : vf_n64 pe)
    (kk : ∀ τ, RI1 τ (pb p) k none (if o.isSome then FP.dadd pe 4652007308841189376 else pe) (if o.isSome then dmpG d (FP.dadd pe 4652007308841189376) else d) → Fp (PI (pb p) k) σ τ → Gr τ → Q τ) : F_In_withdraw NF (pb p + 9) (nI k) σ Q := by
  unfold F_In_withdraw
  refine P_In_has hG hp hk h ?_
  cases o with
  | none => exact w_t rfl (kk σ h Fp.rf hG)
  | some r =>
    refine w_f (fun q => absurd q (show ¬ (1 : Int32) = 0 by decide)) ?_
    rw [gp_9_2 hG hp, np_12 hp, nIc (by omega)]
    refine ⟨vpn (by omega) (by omega), fun σ1 e1 => ?_⟩
    have hG1 : Gr σ1 := e1 ▸ hG
    have f1 : Fp (PI (pb p) k) σ σ1 := by rw [e1]; exact Fp.rf.sI (by unfold PI; omega)
    have h1 : RI1 σ1 (pb p) k none pe d := by
      obtain ⟨a1, a2, a3, a4⟩ := h
      refine ⟨by rw [e1]; exact I_same, (fun r e => by cases e), by rw [e1]; exact a3, by rw [e1, I_ne (by omega)]; exact a4⟩
    exact P_In_grow hG1 hp hk h1 hn fin_1000 (fun τ t1 t2 t3 => kk τ t1 (f1.tr t2) t3)
theorem P_In_withdrawN {Q : rs_Mem → Prop} (kk : Q σ) : F_In_withdraw NF (pb p + 9) (-1) σ Q := P_In_hasN (w_t rfl kk)
theorem P_Ro_copyFrom {v v' : Nat} {r : Rt} {Q : rs_Mem → Prop} (hS : RS σ v) (hS' : RS σ v') (h : RRt σ v' r) (hd : v + 2 < v' ∨ v' + 2 < v)
    (kk : ∀ τ, RRt τ v r → Fr (fun u => v ≤ u ∧ u ≤ v + 2) σ τ → (∀ u j, rs_R τ u j = rs_R σ u j) → Q τ) : F_Ro_copyFrom NF v v' σ Q := by
  obtain ⟨s1, s2, s3, s4⟩ := hS
  obtain ⟨t1, t2, t3, t4⟩ := hS'
  obtain ⟨a, b, c, d, e, g, i, j, k, l, m⟩ := h
  have e8 : (8 : Int32).toNatClampNeg = 8 := by decide
  have e6 : (6 : Int32).toNatClampNeg = 6 := by decide
  intro σ1 e1 σ2 e2
  have r2 : ∀ u q, rs_R σ2 u q = rs_R σ u q := fun u q => by rw [e2, e1]; rfl
  rw [r2, r2, s1, t1, s3, t3, e8]
  refine ⟨⟨by decide, Nat.le_refl 8, Nat.le_refl 8, by omega⟩, fun σ3 e3 σ4 e4 σ5 e5 σ6 e6' σ7 e7 σ8 e8' => ?_⟩
  have r8 : ∀ u q, rs_R σ8 u q = rs_R σ u q := fun u q => by rw [e8', e7, e6', e5, e4, e3]; exact r2 u q
  rw [r8, r8, s2, t2, s4, t4, e6]
  refine ⟨⟨by decide, Nat.le_refl 6, Nat.le_refl 6, by omega⟩, fun σ9 e9 => ?_⟩
  have c2 : ∀ u q, u ≠ v → rs_I σ2 u q = rs_I σ u q := fun u q hu => by rw [e2, e1, I_ne hu, I_ne hu]
  have c3 : ∀ u q, u ≠ v → u ≠ v + 1 → rs_I σ3 u q = rs_I σ u q := fun u q hu hu2 => by rw [e3, I_cp, if_neg (fun z => hu2 z.1), c2 u q hu]
  have c8 : ∀ u q, u ≠ v → u ≠ v + 1 → rs_I σ8 u q = rs_I σ u q := fun u q hu hu2 => by rw [e8', e7, e6', e5, e4, I_ne hu, I_ne hu, I_ne hu, I_ne hu, I_ne hu, c3 u q hu hu2]
  have c8p : ∀ q, q < 8 → rs_I σ8 (v + 1) q = rs_I σ (v' + 1) q := fun q hq => by
    rw [e8', e7, e6', e5, e4, I_ne (by omega), I_ne (by omega), I_ne (by omega), I_ne (by omega), I_ne (by omega), e3, I_cp, if_pos ⟨rfl, hq⟩, c2 _ _ (by omega)]
  have m0 : rs_I σ8 v 0 = rtO r := by
    rw [e8', e7, e6', e5, e4, I_nk (by omega), I_nk (by omega), I_nk (by omega), I_nk (by omega), I_nk (by omega), e3, I_cp, if_neg (by omega), e2, I_nk (by omega), e1, I_same, a]
  have m1 : rs_I σ8 v 1 = nI (rtA r).length := by
    rw [e8', e7, e6', e5, e4, I_nk (by omega), I_nk (by omega), I_nk (by omega), I_nk (by omega), I_nk (by omega), e3, I_cp, if_neg (by omega), e2, I_same, e1, I_ne (by omega), b]
  have x3 : ∀ q, rs_I σ3 v' q = rs_I σ v' q := fun q => c3 _ _ (by omega) (by omega)
  have x4 : ∀ q, rs_I σ4 v' q = rs_I σ v' q := fun q => by rw [e4, I_ne (by omega), x3]
  have x5 : ∀ q, rs_I σ5 v' q = rs_I σ v' q := fun q => by rw [e5, I_ne (by omega), x4]
  have x6 : ∀ q, rs_I σ6 v' q = rs_I σ v' q := fun q => by rw [e6', I_ne (by omega), x5]
  have x7 : ∀ q, rs_I σ7 v' q = rs_I σ v' q := fun q => by rw [e7, I_ne (by omega), x6]
  have m3 : rs_I σ8 v 3 = rtN r := by rw [e8', e7, e6', e5, e4, I_nk (by omega), I_nk (by omega), I_nk (by omega), I_nk (by omega), I_same, x3, c]
  have m4 : rs_I σ8 v 4 = rtM r := by rw [e8', e7, e6', e5, I_nk (by omega), I_nk (by omega), I_nk (by omega), I_same, x4, d]
  have m5 : rs_I σ8 v 5 = rtP r := by rw [e8', e7, e6', I_nk (by omega), I_nk (by omega), I_same, x5, e]
  have m6 : rs_I σ8 v 6 = rtS r := by rw [e8', e7, I_nk (by omega), I_same, x6, g]
  have m7 : rs_I σ8 v 7 = nI (rtC r).length := by rw [e8', I_same, x7, i]
  have c9 : ∀ u q, u ≠ v + 2 → rs_I σ9 u q = rs_I σ8 u q := fun u q hu => by rw [e9, I_cp, if_neg (fun z => hu z.1)]
  refine kk σ9 ⟨?_, ?_, ?_, ?_, ?_, ?_, ?_, fun q hq => ?_, fun q hq => ?_, l, m⟩ ?_ (fun u q => by rw [e9]; exact r8 u q)
  · rw [c9 _ _ (by omega), m0]
  · rw [c9 _ _ (by omega), m1]
  · rw [c9 _ _ (by omega), m3]
  · rw [c9 _ _ (by omega), m4]
  · rw [c9 _ _ (by omega), m5]
  · rw [c9 _ _ (by omega), m6]
  · rw [c9 _ _ (by omega), m7]
  · rw [Nat.zero_add, c9 _ _ (by omega), c8p q (by omega)]; exact j.get0 hq
  · rw [Nat.zero_add, e9, I_cp, if_pos ⟨rfl, by omega⟩, c8 _ _ (by omega) (by omega)]; exact k.get0 hq
  · rw [e9, e8', e7, e6', e5, e4, e3, e2, e1]
    exact (((((((((Fr.rf.sI (by omega)).sI (by omega)).cp (by omega)).sI (by omega)).sI (by omega)).sI (by omega)).sI (by omega)).sI (by omega)).cp (by omega))
noncomputable def chg (o : Option Rt) (r : Rt) : Bool := @decide (o.isSome = true ∧ o ≠ some r) (Classical.propDecidable _)
theorem chg_iff {o : Option Rt} {r : Rt} : chg o r = true ↔ (o.isSome = true ∧ o ≠ some r) := by
  unfold chg
  exact @decide_eq_true_iff _ (Classical.propDecidable _)
theorem P_In_announce {r : Rt} {v : Nat} {Q : rs_Mem → Prop} (hG : Gr σ) (hp : p < 4) (hk : k < 12) (h : RI1 σ (pb p) k o pe d) (hn : vf_n64 pe) (hS : RS σ v) (hv : v + 2 < 29) (hr : RRt σ v r)
    (kk : ∀ τ, RI1 τ (pb p) k (some r) (if chg o r then FP.dadd pe 4647503709213818880 else pe) (if chg o r then dmpG d (FP.dadd pe 4647503709213818880) else d) → Fp (PI (pb p) k) σ τ → Gr τ → Q τ) : F_In_announce NF (pb p + 9) (nI k) v σ Q := by
  have hpb : 29 ≤ pb p := by unfold pb; omega
  have e12 : (12 : Int32) = nI 12 := by decide
  have main : ∀ c : Int32, (c = 0 ∨ c = 1) → (c = 1 ↔ (o.isSome ∧ o ≠ some r)) → B_In_announce_38 NF Q (pb p + 9) (nI k) v c σ := fun c hc0 hc => by
    unfold B_In_announce_38
    rw [gp_9_2 hG hp, np_12 hp, nIc (by omega)]
    refine ⟨vpn (by omega) (by omega), fun σ1 e1 => ?_⟩
    have hG1 : Gr σ1 := e1 ▸ hG
    rw [gp_9_0 hG1 hp, np_10 hp, gp_10 hG1 hp hk]
    have f1 : Fp (fun u _ => u = pb p + 12) σ σ1 := by rw [e1]; exact Fp.rf.sI rfl
    have hr1 : RRt σ1 v r := hr.fp f1 (fun j q => by omega) (fun j q => by omega) (fun j q => by omega)
    have hS1 : RS σ1 v := by rw [e1]; exact hS
    refine ⟨vpn (by omega) (by omega), P_Ro_copyFrom (RS_in hG1 hp hk) hS1 hr1 (by omega) (fun τ g1 g2 g3 => ?_)⟩
    obtain ⟨a1, a2, a3, a4⟩ := h
    have hGt : Gr τ := Gr_of hG1 g3
    have h2 : RI1 τ (pb p) k (some r) pe d := by
      refine ⟨?_, fun r' e' => ?_, ?_, ?_⟩
      · rw [g2.I (by omega), e1]; exact I_same
      · cases e'; exact g1
      · rw [g2.D (by omega), e1]; exact a3
      · rw [g2.I (by omega), e1, I_ne (by omega)]; exact a4
    have f2 : Fp (PI (pb p) k) σ τ := by
      refine Fp.tr (τ := σ1) (by rw [e1]; exact Fp.rf.sI (by unfold PI; omega)) (g2.fp.mono fun u j q => by unfold PI; omega)
    refine ⟨fun q => ?_, fun q => ?_⟩
    · have hno : ¬ (o.isSome ∧ o ≠ some r) := fun z => by rw [hc.mpr z] at q; exact absurd q (by decide)
      rw [if_neg (fun z => hno (chg_iff.mp z)), if_neg (fun z => hno (chg_iff.mp z))] at kk
      exact kk τ h2 f2 hGt
    · have hyes : (o.isSome ∧ o ≠ some r) := hc.mp (hc0.resolve_left q)
      rw [if_pos (chg_iff.mpr hyes), if_pos (chg_iff.mpr hyes)] at kk
      exact P_In_grow hGt hp hk h2 hn fin_500 (fun ρ t1 t2 t3 => kk ρ t1 (f2.tr t2) t3)
  have m0 : ¬ (o.isSome ∧ o ≠ some r) → B_In_announce_37 NF Q (pb p + 9) (nI k) v σ := fun z => main 0 (Or.inl rfl) ⟨fun q => absurd q (by decide), fun q => absurd q z⟩
  unfold F_In_announce
  refine w_f (nI_pos (by omega)) (w_t ?_ ?_)
  · rw [e12, nIlt (by omega) (by omega)]; exact hk
  rw [gp_9_2 hG hp, np_12 hp, nIc (by omega), h.1]
  refine ⟨vpn (by omega) (by omega), ?_⟩
  cases ho : o with
  | none => exact w_t rfl (m0 (by rw [ho]; simp))
  | some r0 =>
    refine w_f (fun q => absurd q (show ¬ (1 : Int32) = 0 by decide)) ?_
    rw [gp_9_0 hG hp, np_10 hp, gp_10 hG hp hk]
    refine ⟨vpn (by omega) (by omega), P_Ro_isSameAs (RS_in hG hp hk) (h.2.1 r0 ho) hS hr (fun q => ?_) (fun q => ?_)⟩
    · exact v_f (by decide) (m0 (by rw [ho, q]; simp))
    · exact v_t rfl (main 1 (Or.inr rfl) ⟨fun _ => ⟨by rw [ho]; rfl, by rw [ho]; exact fun z => q (Option.some.inj z)⟩, fun _ => rfl⟩)
end IN1
