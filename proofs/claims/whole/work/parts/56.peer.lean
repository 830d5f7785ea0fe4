/-! a peer's state in the abstract, and in the class's cells -/
abbrev Ps : Type := Int32 × Int32 × Int32 × Int32 × Int32 × Int32 × Int32 × Int32 × Int32 × Int32 × List Int32 × List Int32 × List Ru × (Nat → Option Rt) × (Nat → UInt64) × (Nat → Bool) × (Nat → Option (List Int32))
def pRole (s : Ps) : Int32 := s.1
def pNet (s : Ps) : Int32 := s.2.1
def pPad (s : Ps) : Int32 := s.2.2.1
def pMl (s : Ps) : Int32 := s.2.2.2.1
def pMa (s : Ps) : Int32 := s.2.2.2.2.1
def pSt (s : Ps) : Int32 := s.2.2.2.2.2.1
def pHt (s : Ps) : Int32 := s.2.2.2.2.2.2.1
def pKt (s : Ps) : Int32 := s.2.2.2.2.2.2.2.1
def pHo (s : Ps) : Int32 := s.2.2.2.2.2.2.2.2.1
def pId (s : Ps) : Int32 := s.2.2.2.2.2.2.2.2.2.1
def pInb (s : Ps) : List Int32 := s.2.2.2.2.2.2.2.2.2.2.1
def pOut (s : Ps) : List Int32 := s.2.2.2.2.2.2.2.2.2.2.2.1
def pRul (s : Ps) : List Ru := s.2.2.2.2.2.2.2.2.2.2.2.2.1
def pInc (s : Ps) : (Nat → Option Rt) := s.2.2.2.2.2.2.2.2.2.2.2.2.2.1
def pPen (s : Ps) : (Nat → UInt64) := s.2.2.2.2.2.2.2.2.2.2.2.2.2.2.1
def pDmp (s : Ps) : (Nat → Bool) := s.2.2.2.2.2.2.2.2.2.2.2.2.2.2.2.1
def pTol (s : Ps) : (Nat → Option (List Int32)) := s.2.2.2.2.2.2.2.2.2.2.2.2.2.2.2.2
def sRole (s : Ps) (v : Int32) : Ps := (v, s.2.1, s.2.2.1, s.2.2.2.1, s.2.2.2.2.1, s.2.2.2.2.2.1, s.2.2.2.2.2.2.1, s.2.2.2.2.2.2.2.1, s.2.2.2.2.2.2.2.2.1, s.2.2.2.2.2.2.2.2.2.1, s.2.2.2.2.2.2.2.2.2.2.1, s.2.2.2.2.2.2.2.2.2.2.2.1, s.2.2.2.2.2.2.2.2.2.2.2.2.1, s.2.2.2.2.2.2.2.2.2.2.2.2.2.1, s.2.2.2.2.2.2.2.2.2.2.2.2.2.2.1, s.2.2.2.2.2.2.2.2.2.2.2.2.2.2.2.1, s.2.2.2.2.2.2.2.2.2.2.2.2.2.2.2.2)
def sNet (s : Ps) (v : Int32) : Ps := (s.1, v, s.2.2.1, s.2.2.2.1, s.2.2.2.2.1, s.2.2.2.2.2.1, s.2.2.2.2.2.2.1, s.2.2.2.2.2.2.2.1, s.2.2.2.2.2.2.2.2.1, s.2.2.2.2.2.2.2.2.2.1, s.2.2.2.2.2.2.2.2.2.2.1, s.2.2.2.2.2.2.2.2.2.2.2.1, s.2.2.2.2.2.2.2.2.2.2.2.2.1, s.2.2.2.2.2.2.2.2.2.2.2.2.2.1, s.2.2.2.2.2.2.2.2.2.2.2.2.2.2.1, s.2.2.2.2.2.2.2.2.2.2.2.2.2.2.2.1, s.2.2.2.2.2.2.2.2.2.2.2.2.2.2.2.2)
def sPad (s : Ps) (v : Int32) : Ps := (s.1, s.2.1, v, s.2.2.2.1, s.2.2.2.2.1, s.2.2.2.2.2.1, s.2.2.2.2.2.2.1, s.2.2.2.2.2.2.2.1, s.2.2.2.2.2.2.2.2.1, s.2.2.2.2.2.2.2.2.2.1, s.2.2.2.2.2.2.2.2.2.2.1, s.2.2.2.2.2.2.2.2.2.2.2.1, s.2.2.2.2.2.2.2.2.2.2.2.2.1, s.2.2.2.2.2.2.2.2.2.2.2.2.2.1, s.2.2.2.2.2.2.2.2.2.2.2.2.2.2.1, s.2.2.2.2.2.2.2.2.2.2.2.2.2.2.2.1, s.2.2.2.2.2.2.2.2.2.2.2.2.2.2.2.2)
def sMl (s : Ps) (v : Int32) : Ps := (s.1, s.2.1, s.2.2.1, v, s.2.2.2.2.1, s.2.2.2.2.2.1, s.2.2.2.2.2.2.1, s.2.2.2.2.2.2.2.1, s.2.2.2.2.2.2.2.2.1, s.2.2.2.2.2.2.2.2.2.1, s.2.2.2.2.2.2.2.2.2.2.1, s.2.2.2.2.2.2.2.2.2.2.2.1, s.2.2.2.2.2.2.2.2.2.2.2.2.1, s.2.2.2.2.2.2.2.2.2.2.2.2.2.1, s.2.2.2.2.2.2.2.2.2.2.2.2.2.2.1, s.2.2.2.2.2.2.2.2.2.2.2.2.2.2.2.1, s.2.2.2.2.2.2.2.2.2.2.2.2.2.2.2.2)
def sMa (s : Ps) (v : Int32) : Ps := (s.1, s.2.1, s.2.2.1, s.2.2.2.1, v, s.2.2.2.2.2.1, s.2.2.2.2.2.2.1, s.2.2.2.2.2.2.2.1, s.2.2.2.2.2.2.2.2.1, s.2.2.2.2.2.2.2.2.2.1, s.2.2.2.2.2.2.2.2.2.2.1, s.2.2.2.2.2.2.2.2.2.2.2.1, s.2.2.2.2.2.2.2.2.2.2.2.2.1, s.2.2.2.2.2.2.2.2.2.2.2.2.2.1, s.2.2.2.2.2.2.2.2.2.2.2.2.2.2.1, s.2.2.2.2.2.2.2.2.2.2.2.2.2.2.2.1, s.2.2.2.2.2.2.2.2.2.2.2.2.2.2.2.2)
def sSt (s : Ps) (v : Int32) : Ps := (s.1, s.2.1, s.2.2.1, s.2.2.2.1, s.2.2.2.2.1, v, s.2.2.2.2.2.2.1, s.2.2.2.2.2.2.2.1, s.2.2.2.2.2.2.2.2.1, s.2.2.2.2.2.2.2.2.2.1, s.2.2.2.2.2.2.2.2.2.2.1, s.2.2.2.2.2.2.2.2.2.2.2.1, s.2.2.2.2.2.2.2.2.2.2.2.2.1, s.2.2.2.2.2.2.2.2.2.2.2.2.2.1, s.2.2.2.2.2.2.2.2.2.2.2.2.2.2.1, s.2.2.2.2.2.2.2.2.2.2.2.2.2.2.2.1, s.2.2.2.2.2.2.2.2.2.2.2.2.2.2.2.2)
def sHt (s : Ps) (v : Int32) : Ps := (s.1, s.2.1, s.2.2.1, s.2.2.2.1, s.2.2.2.2.1, s.2.2.2.2.2.1, v, s.2.2.2.2.2.2.2.1, s.2.2.2.2.2.2.2.2.1, s.2.2.2.2.2.2.2.2.2.1, s.2.2.2.2.2.2.2.2.2.2.1, s.2.2.2.2.2.2.2.2.2.2.2.1, s.2.2.2.2.2.2.2.2.2.2.2.2.1, s.2.2.2.2.2.2.2.2.2.2.2.2.2.1, s.2.2.2.2.2.2.2.2.2.2.2.2.2.2.1, s.2.2.2.2.2.2.2.2.2.2.2.2.2.2.2.1, s.2.2.2.2.2.2.2.2.2.2.2.2.2.2.2.2)
def sKt (s : Ps) (v : Int32) : Ps := (s.1, s.2.1, s.2.2.1, s.2.2.2.1, s.2.2.2.2.1, s.2.2.2.2.2.1, s.2.2.2.2.2.2.1, v, s.2.2.2.2.2.2.2.2.1, s.2.2.2.2.2.2.2.2.2.1, s.2.2.2.2.2.2.2.2.2.2.1, s.2.2.2.2.2.2.2.2.2.2.2.1, s.2.2.2.2.2.2.2.2.2.2.2.2.1, s.2.2.2.2.2.2.2.2.2.2.2.2.2.1, s.2.2.2.2.2.2.2.2.2.2.2.2.2.2.1, s.2.2.2.2.2.2.2.2.2.2.2.2.2.2.2.1, s.2.2.2.2.2.2.2.2.2.2.2.2.2.2.2.2)
def sHo (s : Ps) (v : Int32) : Ps := (s.1, s.2.1, s.2.2.1, s.2.2.2.1, s.2.2.2.2.1, s.2.2.2.2.2.1, s.2.2.2.2.2.2.1, s.2.2.2.2.2.2.2.1, v, s.2.2.2.2.2.2.2.2.2.1, s.2.2.2.2.2.2.2.2.2.2.1, s.2.2.2.2.2.2.2.2.2.2.2.1, s.2.2.2.2.2.2.2.2.2.2.2.2.1, s.2.2.2.2.2.2.2.2.2.2.2.2.2.1, s.2.2.2.2.2.2.2.2.2.2.2.2.2.2.1, s.2.2.2.2.2.2.2.2.2.2.2.2.2.2.2.1, s.2.2.2.2.2.2.2.2.2.2.2.2.2.2.2.2)
def sId (s : Ps) (v : Int32) : Ps := (s.1, s.2.1, s.2.2.1, s.2.2.2.1, s.2.2.2.2.1, s.2.2.2.2.2.1, s.2.2.2.2.2.2.1, s.2.2.2.2.2.2.2.1, s.2.2.2.2.2.2.2.2.1, v, s.2.2.2.2.2.2.2.2.2.2.1, s.2.2.2.2.2.2.2.2.2.2.2.1, s.2.2.2.2.2.2.2.2.2.2.2.2.1, s.2.2.2.2.2.2.2.2.2.2.2.2.2.1, s.2.2.2.2.2.2.2.2.2.2.2.2.2.2.1, s.2.2.2.2.2.2.2.2.2.2.2.2.2.2.2.1, s.2.2.2.2.2.2.2.2.2.2.2.2.2.2.2.2)
def sInb (s : Ps) (v : List Int32) : Ps := (s.1, s.2.1, s.2.2.1, s.2.2.2.1, s.2.2.2.2.1, s.2.2.2.2.2.1, s.2.2.2.2.2.2.1, s.2.2.2.2.2.2.2.1, s.2.2.2.2.2.2.2.2.1, s.2.2.2.2.2.2.2.2.2.1, v, s.2.2.2.2.2.2.2.2.2.2.2.1, s.2.2.2.2.2.2.2.2.2.2.2.2.1, s.2.2.2.2.2.2.2.2.2.2.2.2.2.1, s.2.2.2.2.2.2.2.2.2.2.2.2.2.2.1, s.2.2.2.2.2.2.2.2.2.2.2.2.2.2.2.1, s.2.2.2.2.2.2.2.2.2.2.2.2.2.2.2.2)
def sOut (s : Ps) (v : List Int32) : Ps := (s.1, s.2.1, s.2.2.1, s.2.2.2.1, s.2.2.2.2.1, s.2.2.2.2.2.1, s.2.2.2.2.2.2.1, s.2.2.2.2.2.2.2.1, s.2.2.2.2.2.2.2.2.1, s.2.2.2.2.2.2.2.2.2.1, s.2.2.2.2.2.2.2.2.2.2.1, v, s.2.2.2.2.2.2.2.2.2.2.2.2.1, s.2.2.2.2.2.2.2.2.2.2.2.2.2.1, s.2.2.2.2.2.2.2.2.2.2.2.2.2.2.1, s.2.2.2.2.2.2.2.2.2.2.2.2.2.2.2.1, s.2.2.2.2.2.2.2.2.2.2.2.2.2.2.2.2)
def sRul (s : Ps) (v : List Ru) : Ps := (s.1, s.2.1, s.2.2.1, s.2.2.2.1, s.2.2.2.2.1, s.2.2.2.2.2.1, s.2.2.2.2.2.2.1, s.2.2.2.2.2.2.2.1, s.2.2.2.2.2.2.2.2.1, s.2.2.2.2.2.2.2.2.2.1, s.2.2.2.2.2.2.2.2.2.2.1, s.2.2.2.2.2.2.2.2.2.2.2.1, v, s.2.2.2.2.2.2.2.2.2.2.2.2.2.1, s.2.2.2.2.2.2.2.2.2.2.2.2.2.2.1, s.2.2.2.2.2.2.2.2.2.2.2.2.2.2.2.1, s.2.2.2.2.2.2.2.2.2.2.2.2.2.2.2.2)
def sInc (s : Ps) (v : (Nat → Option Rt)) : Ps := (s.1, s.2.1, s.2.2.1, s.2.2.2.1, s.2.2.2.2.1, s.2.2.2.2.2.1, s.2.2.2.2.2.2.1, s.2.2.2.2.2.2.2.1, s.2.2.2.2.2.2.2.2.1, s.2.2.2.2.2.2.2.2.2.1, s.2.2.2.2.2.2.2.2.2.2.1, s.2.2.2.2.2.2.2.2.2.2.2.1, s.2.2.2.2.2.2.2.2.2.2.2.2.1, v, s.2.2.2.2.2.2.2.2.2.2.2.2.2.2.1, s.2.2.2.2.2.2.2.2.2.2.2.2.2.2.2.1, s.2.2.2.2.2.2.2.2.2.2.2.2.2.2.2.2)
def sPen (s : Ps) (v : (Nat → UInt64)) : Ps := (s.1, s.2.1, s.2.2.1, s.2.2.2.1, s.2.2.2.2.1, s.2.2.2.2.2.1, s.2.2.2.2.2.2.1, s.2.2.2.2.2.2.2.1, s.2.2.2.2.2.2.2.2.1, s.2.2.2.2.2.2.2.2.2.1, s.2.2.2.2.2.2.2.2.2.2.1, s.2.2.2.2.2.2.2.2.2.2.2.1, s.2.2.2.2.2.2.2.2.2.2.2.2.1, s.2.2.2.2.2.2.2.2.2.2.2.2.2.1, v, s.2.2.2.2.2.2.2.2.2.2.2.2.2.2.2.1, s.2.2.2.2.2.2.2.2.2.2.2.2.2.2.2.2)
def sDmp (s : Ps) (v : (Nat → Bool)) : Ps := (s.1, s.2.1, s.2.2.1, s.2.2.2.1, s.2.2.2.2.1, s.2.2.2.2.2.1, s.2.2.2.2.2.2.1, s.2.2.2.2.2.2.2.1, s.2.2.2.2.2.2.2.2.1, s.2.2.2.2.2.2.2.2.2.1, s.2.2.2.2.2.2.2.2.2.2.1, s.2.2.2.2.2.2.2.2.2.2.2.1, s.2.2.2.2.2.2.2.2.2.2.2.2.1, s.2.2.2.2.2.2.2.2.2.2.2.2.2.1, s.2.2.2.2.2.2.2.2.2.2.2.2.2.2.1, v, s.2.2.2.2.2.2.2.2.2.2.2.2.2.2.2.2)
def sTol (s : Ps) (v : (Nat → Option (List Int32))) : Ps := (s.1, s.2.1, s.2.2.1, s.2.2.2.1, s.2.2.2.2.1, s.2.2.2.2.2.1, s.2.2.2.2.2.2.1, s.2.2.2.2.2.2.2.1, s.2.2.2.2.2.2.2.2.1, s.2.2.2.2.2.2.2.2.2.1, s.2.2.2.2.2.2.2.2.2.2.1, s.2.2.2.2.2.2.2.2.2.2.2.1, s.2.2.2.2.2.2.2.2.2.2.2.2.1, s.2.2.2.2.2.2.2.2.2.2.2.2.2.1, s.2.2.2.2.2.2.2.2.2.2.2.2.2.2.1, s.2.2.2.2.2.2.2.2.2.2.2.2.2.2.2.1, v)
def RA (σ : rs_Mem) (b : Nat) (s : Ps) : Prop := rs_I σ b 0 = pRole s ∧ rs_I σ b 1 = pNet s ∧ rs_I σ b 2 = pPad s ∧ rs_I σ b 3 = pMl s ∧ rs_I σ b 4 = pMa s ∧ rs_I σ b 6 = pSt s ∧ rs_I σ b 7 = pHt s ∧ rs_I σ b 8 = pKt s ∧ rs_I σ b 9 = pHo s ∧ rs_I σ b 10 = pId s
def RIb (σ : rs_Mem) (b : Nat) (l : List Int32) : Prop := rs_I σ b 11 = nI l.length ∧ l.length ≤ 60 ∧ Ar σ (b + 5) 0 l
def msgA (t : List Int32) (q : Int32 × Int32) : List Int32 := nI (t.length + 6) :: 2 :: 0 :: nI t.length :: (t ++ [q.1, q.2])
def RT1 (σ : rs_Mem) (b : Nat) (pre : List (Int32 × Int32)) (k : Nat) (o : Option (List Int32)) : Prop := (o = none → rs_I σ (b + 51 + k) 0 = 0) ∧ ∀ t, o = some t → ∃ q, pre[k]? = some q ∧ t.length ≤ 33 ∧ Ar σ (b + 51 + k) 0 (msgA t q)
def RTo (σ : rs_Mem) (b : Nat) (pre : List (Int32 × Int32)) (tol : Nat → Option (List Int32)) : Prop := ∀ k, k < 12 → RT1 σ b pre k (tol k)
def RPe (σ : rs_Mem) (b : Nat) (pre : List (Int32 × Int32)) (s : Ps) : Prop := RA σ b s ∧ RIb σ b (pInb s) ∧ ROb σ (b + 6) (pOut s) ∧ RRu σ (b + 1) (pRul s) ∧ RIn σ b (pInc s) (pPen s) (pDmp s) ∧ RTo σ b pre (pTol s)
section PE
variable {P : Nat → Nat → Prop} {A : Nat → Prop} {σ τ : rs_Mem} {b : Nat} {pre : List (Int32 × Int32)} {s : Ps}
theorem RA.fp (h : RA σ b s) (f : Fp P σ τ) (h0 : ∀ j, j ≤ 10 → ¬ P b j) : RA τ b s := by
  obtain ⟨a0, a1, a2, a3, a4, a5, a6, a7, a8, a9⟩ := h
  exact ⟨(f.I (h0 _ (by omega))).trans a0, (f.I (h0 _ (by omega))).trans a1, (f.I (h0 _ (by omega))).trans a2, (f.I (h0 _ (by omega))).trans a3, (f.I (h0 _ (by omega))).trans a4, (f.I (h0 _ (by omega))).trans a5, (f.I (h0 _ (by omega))).trans a6, (f.I (h0 _ (by omega))).trans a7, (f.I (h0 _ (by omega))).trans a8, (f.I (h0 _ (by omega))).trans a9⟩
theorem RIb.fp {l : List Int32} (h : RIb σ b l) (f : Fp P σ τ) (h0 : ¬ P b 11) (h1 : ∀ j, ¬ P (b + 5) j) : RIb τ b l :=
  ⟨(f.I h0).trans h.1, h.2.1, fun k hk => (f.I (h1 _)).trans (h.2.2 k hk)⟩
theorem RT1.fp {k : Nat} {o : Option (List Int32)} (h : RT1 σ b pre k o) (f : Fp P σ τ) (h0 : ∀ j, ¬ P (b + 51 + k) j) : RT1 τ b pre k o := by
  refine ⟨fun e => (f.I (h0 _)).trans (h.1 e), fun t e => ?_⟩
  obtain ⟨q, q1, q2, q3⟩ := h.2 t e
  exact ⟨q, q1, q2, fun j hj => (f.I (h0 _)).trans (q3 j hj)⟩
theorem RTo.fp {tol : Nat → Option (List Int32)} (h : RTo σ b pre tol) (f : Fp P σ τ) (h0 : ∀ u j, b + 51 ≤ u → u ≤ b + 62 → ¬ P u j) : RTo τ b pre tol := fun k hk => (h k hk).fp f (fun j => h0 _ j (by omega) (by omega))
theorem RIn.fp {inc : Nat → Option Rt} {pen : Nat → UInt64} {dmp : Nat → Bool} (h : RIn σ b inc pen dmp) (f : Fp P σ τ) (h0 : ∀ u j, b + 11 ≤ u → u ≤ b + 49 → ¬ P u j) : RIn τ b inc pen dmp := fun k hk => (h k hk).fp f (h0 _ _ (by omega) (by omega)) (h0 _ _ (by omega) (by omega)) (h0 _ _ (by omega) (by omega)) (fun u j q1 q2 => h0 u j (by omega) (by omega))
theorem ROb.fp {v : Nat} {l : List Int32} (h : ROb σ v l) (f : Fp P σ τ) (h0 : ∀ j, ¬ P v j) (h1 : ∀ j, ¬ P (v + 1) j) : ROb τ v l := h.fr (A := fun u => ∃ j, P u j) (f.fr fun u j q => ⟨j, q⟩) (fun ⟨j, q⟩ => h0 j q) (fun ⟨j, q⟩ => h1 j q)
theorem RRu.fp {v : Nat} {l : List Ru} (h : RRu σ v l) (f : Fp P σ τ) (h0 : ∀ u j, v ≤ u → u ≤ v + 3 → ¬ P u j) : RRu τ v l := h.fr (A := fun u => ∃ j, P u j) (f.fr fun u j q => ⟨j, q⟩) (fun ⟨j, q⟩ => h0 _ j (by omega) (by omega) q) (fun ⟨j, q⟩ => h0 _ j (by omega) (by omega) q) (fun ⟨j, q⟩ => h0 _ j (by omega) (by omega) q) (fun ⟨j, q⟩ => h0 _ j (by omega) (by omega) q)
/-- nothing of the peer's cells was written -/
theorem RPe.fp (h : RPe σ b pre s) (f : Fp P σ τ) (h0 : ∀ u j, b ≤ u → u ≤ b + 62 → (u = b + 8 ∨ ¬ P u j)) : RPe τ b pre s := by
  obtain ⟨a1, a2, a3, a4, a5, a6⟩ := h
  have h1 : ∀ u j, b ≤ u → u ≤ b + 62 → u ≠ b + 8 → ¬ P u j := fun u j q1 q2 q3 => (h0 u j q1 q2).resolve_left q3
  exact ⟨a1.fp f (fun j _ => h1 _ _ (by omega) (by omega) (by omega)), a2.fp f (h1 _ _ (by omega) (by omega) (by omega)) (fun j => h1 _ _ (by omega) (by omega) (by omega)), a3.fp f (fun j => h1 _ _ (by omega) (by omega) (by omega)) (fun j => h1 _ _ (by omega) (by omega) (by omega)), a4.fp f (fun u j q1 q2 => h1 _ _ (by omega) (by omega) (by omega)), a5.fp f (fun u j q1 q2 => h1 _ _ (by omega) (by omega) (by omega)), a6.fp f (fun u j q1 q2 => h1 _ _ (by omega) (by omega) (by omega))⟩
theorem RPe.sRole {v : Int32} (h : RPe σ b pre s) : RPe (rs_sI σ b 0 v) b pre (sRole s v) := by
  obtain ⟨⟨a0, a1, a2, a3, a4, a5, a6, a7, a8, a9⟩, b2, b3, b4, b5, b6⟩ := h
  have f : Fp (fun u j => u = b ∧ j = 0) σ (rs_sI σ b 0 v) := Fp.rf.sI ⟨rfl, rfl⟩
  exact ⟨⟨I_same, (I_nk (by omega)).trans a1, (I_nk (by omega)).trans a2, (I_nk (by omega)).trans a3, (I_nk (by omega)).trans a4, (I_nk (by omega)).trans a5, (I_nk (by omega)).trans a6, (I_nk (by omega)).trans a7, (I_nk (by omega)).trans a8, (I_nk (by omega)).trans a9⟩, b2.fp f (by omega) (by omega), b3.fp f (by omega) (by omega), b4.fp f (by omega), b5.fp f (by omega), b6.fp f (by omega)⟩
theorem RPe.sNet {v : Int32} (h : RPe σ b pre s) : RPe (rs_sI σ b 1 v) b pre (sNet s v) := by
  obtain ⟨⟨a0, a1, a2, a3, a4, a5, a6, a7, a8, a9⟩, b2, b3, b4, b5, b6⟩ := h
  have f : Fp (fun u j => u = b ∧ j = 1) σ (rs_sI σ b 1 v) := Fp.rf.sI ⟨rfl, rfl⟩
  exact ⟨⟨(I_nk (by omega)).trans a0, I_same, (I_nk (by omega)).trans a2, (I_nk (by omega)).trans a3, (I_nk (by omega)).trans a4, (I_nk (by omega)).trans a5, (I_nk (by omega)).trans a6, (I_nk (by omega)).trans a7, (I_nk (by omega)).trans a8, (I_nk (by omega)).trans a9⟩, b2.fp f (by omega) (by omega), b3.fp f (by omega) (by omega), b4.fp f (by omega), b5.fp f (by omega), b6.fp f (by omega)⟩
theorem RPe.sPad {v : Int32} (h : RPe σ b pre s) : RPe (rs_sI σ b 2 v) b pre (sPad s v) := by
  obtain ⟨⟨a0, a1, a2, a3, a4, a5, a6, a7, a8, a9⟩, b2, b3, b4, b5, b6⟩ := h
  have f : Fp (fun u j => u = b ∧ j = 2) σ (rs_sI σ b 2 v) := Fp.rf.sI ⟨rfl, rfl⟩
  exact ⟨⟨(I_nk (by omega)).trans a0, (I_nk (by omega)).trans a1, I_same, (I_nk (by omega)).trans a3, (I_nk (by omega)).trans a4, (I_nk (by omega)).trans a5, (I_nk (by omega)).trans a6, (I_nk (by omega)).trans a7, (I_nk (by omega)).trans a8, (I_nk (by omega)).trans a9⟩, b2.fp f (by omega) (by omega), b3.fp f (by omega) (by omega), b4.fp f (by omega), b5.fp f (by omega), b6.fp f (by omega)⟩
theorem RPe.sMl {v : Int32} (h : RPe σ b pre s) : RPe (rs_sI σ b 3 v) b pre (sMl s v) := by
  obtain ⟨⟨a0, a1, a2, a3, a4, a5, a6, a7, a8, a9⟩, b2, b3, b4, b5, b6⟩ := h
  have f : Fp (fun u j => u = b ∧ j = 3) σ (rs_sI σ b 3 v) := Fp.rf.sI ⟨rfl, rfl⟩
  exact ⟨⟨(I_nk (by omega)).trans a0, (I_nk (by omega)).trans a1, (I_nk (by omega)).trans a2, I_same, (I_nk (by omega)).trans a4, (I_nk (by omega)).trans a5, (I_nk (by omega)).trans a6, (I_nk (by omega)).trans a7, (I_nk (by omega)).trans a8, (I_nk (by omega)).trans a9⟩, b2.fp f (by omega) (by omega), b3.fp f (by omega) (by omega), b4.fp f (by omega), b5.fp f (by omega), b6.fp f (by omega)⟩
theorem RPe.sMa {v : Int32} (h : RPe σ b pre s) : RPe (rs_sI σ b 4 v) b pre (sMa s v) := by
  obtain ⟨⟨a0, a1, a2, a3, a4, a5, a6, a7, a8, a9⟩, b2, b3, b4, b5, b6⟩ := h
  have f : Fp (fun u j => u = b ∧ j = 4) σ (rs_sI σ b 4 v) := Fp.rf.sI ⟨rfl, rfl⟩
  exact ⟨⟨(I_nk (by omega)).trans a0, (I_nk (by omega)).trans a1, (I_nk (by omega)).trans a2, (I_nk (by omega)).trans a3, I_same, (I_nk (by omega)).trans a5, (I_nk (by omega)).trans a6, (I_nk (by omega)).trans a7, (I_nk (by omega)).trans a8, (I_nk (by omega)).trans a9⟩, b2.fp f (by omega) (by omega), b3.fp f (by omega) (by omega), b4.fp f (by omega), b5.fp f (by omega), b6.fp f (by omega)⟩
theorem RPe.sSt {v : Int32} (h : RPe σ b pre s) : RPe (rs_sI σ b 6 v) b pre (sSt s v) := by
  obtain ⟨⟨a0, a1, a2, a3, a4, a5, a6, a7, a8, a9⟩, b2, b3, b4, b5, b6⟩ := h
  have f : Fp (fun u j => u = b ∧ j = 6) σ (rs_sI σ b 6 v) := Fp.rf.sI ⟨rfl, rfl⟩
  exact ⟨⟨(I_nk (by omega)).trans a0, (I_nk (by omega)).trans a1, (I_nk (by omega)).trans a2, (I_nk (by omega)).trans a3, (I_nk (by omega)).trans a4, I_same, (I_nk (by omega)).trans a6, (I_nk (by omega)).trans a7, (I_nk (by omega)).trans a8, (I_nk (by omega)).trans a9⟩, b2.fp f (by omega) (by omega), b3.fp f (by omega) (by omega), b4.fp f (by omega), b5.fp f (by omega), b6.fp f (by omega)⟩
theorem RPe.sHt {v : Int32} (h : RPe σ b pre s) : RPe (rs_sI σ b 7 v) b pre (sHt s v) := by
  obtain ⟨⟨a0, a1, a2, a3, a4, a5, a6, a7, a8, a9⟩, b2, b3, b4, b5, b6⟩ := h
  have f : Fp (fun u j => u = b ∧ j = 7) σ (rs_sI σ b 7 v) := Fp.rf.sI ⟨rfl, rfl⟩
  exact ⟨⟨(I_nk (by omega)).trans a0, (I_nk (by omega)).trans a1, (I_nk (by omega)).trans a2, (I_nk (by omega)).trans a3, (I_nk (by omega)).trans a4, (I_nk (by omega)).trans a5, I_same, (I_nk (by omega)).trans a7, (I_nk (by omega)).trans a8, (I_nk (by omega)).trans a9⟩, b2.fp f (by omega) (by omega), b3.fp f (by omega) (by omega), b4.fp f (by omega), b5.fp f (by omega), b6.fp f (by omega)⟩
theorem RPe.sKt {v : Int32} (h : RPe σ b pre s) : RPe (rs_sI σ b 8 v) b pre (sKt s v) := by
  obtain ⟨⟨a0, a1, a2, a3, a4, a5, a6, a7, a8, a9⟩, b2, b3, b4, b5, b6⟩ := h
  have f : Fp (fun u j => u = b ∧ j = 8) σ (rs_sI σ b 8 v) := Fp.rf.sI ⟨rfl, rfl⟩
  exact ⟨⟨(I_nk (by omega)).trans a0, (I_nk (by omega)).trans a1, (I_nk (by omega)).trans a2, (I_nk (by omega)).trans a3, (I_nk (by omega)).trans a4, (I_nk (by omega)).trans a5, (I_nk (by omega)).trans a6, I_same, (I_nk (by omega)).trans a8, (I_nk (by omega)).trans a9⟩, b2.fp f (by omega) (by omega), b3.fp f (by omega) (by omega), b4.fp f (by omega), b5.fp f (by omega), b6.fp f (by omega)⟩
theorem RPe.sHo {v : Int32} (h : RPe σ b pre s) : RPe (rs_sI σ b 9 v) b pre (sHo s v) := by
  obtain ⟨⟨a0, a1, a2, a3, a4, a5, a6, a7, a8, a9⟩, b2, b3, b4, b5, b6⟩ := h
  have f : Fp (fun u j => u = b ∧ j = 9) σ (rs_sI σ b 9 v) := Fp.rf.sI ⟨rfl, rfl⟩
  exact ⟨⟨(I_nk (by omega)).trans a0, (I_nk (by omega)).trans a1, (I_nk (by omega)).trans a2, (I_nk (by omega)).trans a3, (I_nk (by omega)).trans a4, (I_nk (by omega)).trans a5, (I_nk (by omega)).trans a6, (I_nk (by omega)).trans a7, I_same, (I_nk (by omega)).trans a9⟩, b2.fp f (by omega) (by omega), b3.fp f (by omega) (by omega), b4.fp f (by omega), b5.fp f (by omega), b6.fp f (by omega)⟩
theorem RPe.sId {v : Int32} (h : RPe σ b pre s) : RPe (rs_sI σ b 10 v) b pre (sId s v) := by
  obtain ⟨⟨a0, a1, a2, a3, a4, a5, a6, a7, a8, a9⟩, b2, b3, b4, b5, b6⟩ := h
  have f : Fp (fun u j => u = b ∧ j = 10) σ (rs_sI σ b 10 v) := Fp.rf.sI ⟨rfl, rfl⟩
  exact ⟨⟨(I_nk (by omega)).trans a0, (I_nk (by omega)).trans a1, (I_nk (by omega)).trans a2, (I_nk (by omega)).trans a3, (I_nk (by omega)).trans a4, (I_nk (by omega)).trans a5, (I_nk (by omega)).trans a6, (I_nk (by omega)).trans a7, (I_nk (by omega)).trans a8, I_same⟩, b2.fp f (by omega) (by omega), b3.fp f (by omega) (by omega), b4.fp f (by omega), b5.fp f (by omega), b6.fp f (by omega)⟩
theorem RPe.sOut {l : List Int32} (h : RPe σ b pre s) (f : Fr (fun u => u = b + 6 ∨ u = b + 7) σ τ) (g : ROb τ (b + 6) l) : RPe τ b pre (sOut s l) := by
  obtain ⟨b1, b2, b3, b4, b5, b6⟩ := h
  exact ⟨b1.fp f.fp (by omega), b2.fp f.fp (by omega) (by omega), g, b4.fp f.fp (by omega), b5.fp f.fp (by omega), b6.fp f.fp (by omega)⟩
theorem RPe.sInb {l : List Int32} (h : RPe σ b pre s) (f : Fp (fun u j => (u = b ∧ j = 11) ∨ u = b + 5) σ τ) (g : RIb τ b l) : RPe τ b pre (sInb s l) := by
  obtain ⟨b1, b2, b3, b4, b5, b6⟩ := h
  exact ⟨b1.fp f (by omega), g, b3.fp f (by omega) (by omega), b4.fp f (by omega), b5.fp f (by omega), b6.fp f (by omega)⟩
theorem RPe.sRul {l : List Ru} (h : RPe σ b pre s) (f : Fr (fun u => b + 1 ≤ u ∧ u ≤ b + 4) σ τ) (g : RRu τ (b + 1) l) : RPe τ b pre (sRul s l) := by
  obtain ⟨b1, b2, b3, b4, b5, b6⟩ := h
  exact ⟨b1.fp f.fp (by omega), b2.fp f.fp (by omega) (by omega), b3.fp f.fp (by omega) (by omega), g, b5.fp f.fp (by omega), b6.fp f.fp (by omega)⟩
theorem RPe.sIn {inc : Nat → Option Rt} {pen : Nat → UInt64} {dmp : Nat → Bool} (h : RPe σ b pre s) (f : Fr (fun u => b + 11 ≤ u ∧ u ≤ b + 49) σ τ) (g : RIn τ b inc pen dmp) : RPe τ b pre (sDmp (sPen (sInc s inc) pen) dmp) := by
  obtain ⟨b1, b2, b3, b4, b5, b6⟩ := h
  exact ⟨b1.fp f.fp (by omega), b2.fp f.fp (by omega) (by omega), b3.fp f.fp (by omega) (by omega), b4.fp f.fp (by omega), g, b6.fp f.fp (by omega)⟩
theorem RPe.sTo {tol : Nat → Option (List Int32)} (h : RPe σ b pre s) (f : Fr (fun u => b + 51 ≤ u ∧ u ≤ b + 62) σ τ) (g : RTo τ b pre tol) : RPe τ b pre (sTol s tol) := by
  obtain ⟨b1, b2, b3, b4, b5, b6⟩ := h
  exact ⟨b1.fp f.fp (by omega), b2.fp f.fp (by omega) (by omega), b3.fp f.fp (by omega) (by omega), b4.fp f.fp (by omega), b5.fp f.fp (by omega), g⟩
end PE
