theorem rs_sw_0_16 (x : Int32) : (x.toInt < 0 ∨ 16 < x.toInt) ∨ x = 0 ∨ x = 1 ∨ x = 2 ∨ x = 3 ∨ x = 4 ∨ x = 5 ∨ x = 6 ∨ x = 7 ∨ x = 8 ∨ x = 9 ∨ x = 10 ∨ x = 11 ∨ x = 12 ∨ x = 13 ∨ x = 14 ∨ x = 15 ∨ x = 16 := by
  by_cases h : x.toInt < 0 ∨ 16 < x.toInt
  · exact Or.inl h
  · refine Or.inr ?_
    have e : x.toInt = 0 ∨ x.toInt = 1 ∨ x.toInt = 2 ∨ x.toInt = 3 ∨ x.toInt = 4 ∨ x.toInt = 5 ∨ x.toInt = 6 ∨ x.toInt = 7 ∨ x.toInt = 8 ∨ x.toInt = 9 ∨ x.toInt = 10 ∨ x.toInt = 11 ∨ x.toInt = 12 ∨ x.toInt = 13 ∨ x.toInt = 14 ∨ x.toInt = 15 ∨ x.toInt = 16 := by omega
    rcases e with e | e | e | e | e | e | e | e | e | e | e | e | e | e | e | e | e
    · exact Or.inl (Int32.toInt_inj.mp (e.trans (by decide +kernel : (0 : Int) = (0 : Int32).toInt)))
    · exact Or.inr (Or.inl (Int32.toInt_inj.mp (e.trans (by decide +kernel : (1 : Int) = (1 : Int32).toInt))))
    · exact Or.inr (Or.inr (Or.inl (Int32.toInt_inj.mp (e.trans (by decide +kernel : (2 : Int) = (2 : Int32).toInt)))))
    · exact Or.inr (Or.inr (Or.inr (Or.inl (Int32.toInt_inj.mp (e.trans (by decide +kernel : (3 : Int) = (3 : Int32).toInt))))))
    · exact Or.inr (Or.inr (Or.inr (Or.inr (Or.inl (Int32.toInt_inj.mp (e.trans (by decide +kernel : (4 : Int) = (4 : Int32).toInt)))))))
    · exact Or.inr (Or.inr (Or.inr (Or.inr (Or.inr (Or.inl (Int32.toInt_inj.mp (e.trans (by decide +kernel : (5 : Int) = (5 : Int32).toInt))))))))
    · exact Or.inr (Or.inr (Or.inr (Or.inr (Or.inr (Or.inr (Or.inl (Int32.toInt_inj.mp (e.trans (by decide +kernel : (6 : Int) = (6 : Int32).toInt)))))))))
    · exact Or.inr (Or.inr (Or.inr (Or.inr (Or.inr (Or.inr (Or.inr (Or.inl (Int32.toInt_inj.mp (e.trans (by decide +kernel : (7 : Int) = (7 : Int32).toInt))))))))))
    · exact Or.inr (Or.inr (Or.inr (Or.inr (Or.inr (Or.inr (Or.inr (Or.inr (Or.inl (Int32.toInt_inj.mp (e.trans (by decide +kernel : (8 : Int) = (8 : Int32).toInt)))))))))))
    · exact Or.inr (Or.inr (Or.inr (Or.inr (Or.inr (Or.inr (Or.inr (Or.inr (Or.inr (Or.inl (Int32.toInt_inj.mp (e.trans (by decide +kernel : (9 : Int) = (9 : Int32).toInt))))))))))))
    · exact Or.inr (Or.inr (Or.inr (Or.inr (Or.inr (Or.inr (Or.inr (Or.inr (Or.inr (Or.inr (Or.inl (Int32.toInt_inj.mp (e.trans (by decide +kernel : (10 : Int) = (10 : Int32).toInt)))))))))))))
    · exact Or.inr (Or.inr (Or.inr (Or.inr (Or.inr (Or.inr (Or.inr (Or.inr (Or.inr (Or.inr (Or.inr (Or.inl (Int32.toInt_inj.mp (e.trans (by decide +kernel : (11 : Int) = (11 : Int32).toInt))))))))))))))
    · exact Or.inr (Or.inr (Or.inr (Or.inr (Or.inr (Or.inr (Or.inr (Or.inr (Or.inr (Or.inr (Or.inr (Or.inr (Or.inl (Int32.toInt_inj.mp (e.trans (by decide +kernel : (12 : Int) = (12 : Int32).toInt)))))))))))))))
    · exact Or.inr (Or.inr (Or.inr (Or.inr (Or.inr (Or.inr (Or.inr (Or.inr (Or.inr (Or.inr (Or.inr (Or.inr (Or.inr (Or.inl (Int32.toInt_inj.mp (e.trans (by decide +kernel : (13 : Int) = (13 : Int32).toInt))))))))))))))))
    · exact Or.inr (Or.inr (Or.inr (Or.inr (Or.inr (Or.inr (Or.inr (Or.inr (Or.inr (Or.inr (Or.inr (Or.inr (Or.inr (Or.inr (Or.inl (Int32.toInt_inj.mp (e.trans (by decide +kernel : (14 : Int) = (14 : Int32).toInt)))))))))))))))))
    · exact Or.inr (Or.inr (Or.inr (Or.inr (Or.inr (Or.inr (Or.inr (Or.inr (Or.inr (Or.inr (Or.inr (Or.inr (Or.inr (Or.inr (Or.inr (Or.inl (Int32.toInt_inj.mp (e.trans (by decide +kernel : (15 : Int) = (15 : Int32).toInt))))))))))))))))))
    · exact Or.inr (Or.inr (Or.inr (Or.inr (Or.inr (Or.inr (Or.inr (Or.inr (Or.inr (Or.inr (Or.inr (Or.inr (Or.inr (Or.inr (Or.inr (Or.inr ((Int32.toInt_inj.mp (e.trans (by decide +kernel : (16 : Int) = (16 : Int32).toInt)))))))))))))))))))
def B_La_law_434 (N : Nat → Nat) (xs : Nat → Int32) (L : Nat) (K28 : Nat → Nat → Nat → Nat → Int32 → rs_Mem → Prop) (v1 : Nat) (v2 : Nat) (v3 : Nat) (v4 : Nat) (x5 : Int32) (y0 : Int64) (y1 : Int64) (σ : rs_Mem) : Prop :=
  (((lg_cmp y0 y1) = 0 → (∀ x51 : Int32, x51 = x5 + (5 : Int32) → (K28 v1 v2 v3 v4 x51 σ))) ∧ (¬ ((lg_cmp y0 y1) = 0) → False))
def B_La_law_754 (N : Nat → Nat) (xs : Nat → Int32) (L : Nat) (K28 : Nat → Nat → Nat → Nat → Int32 → rs_Mem → Prop) (v1 : Nat) (v2 : Nat) (v3 : Nat) (v4 : Nat) (x5 : Int32) (y0 : Int64) (y1 : Int64) (σ : rs_Mem) : Prop :=
  (((lg_cmp y0 y1) = 0 → (∀ x51 : Int32, x51 = x5 + (5 : Int32) → (K28 v1 v2 v3 v4 x51 σ))) ∧ (¬ ((lg_cmp y0 y1) = 0) → False))
def B_La_law_635 (N : Nat → Nat) (xs : Nat → Int32) (L : Nat) (K28 : Nat → Nat → Nat → Nat → Int32 → rs_Mem → Prop) (v1 : Nat) (v2 : Nat) (v3 : Nat) (v4 : Nat) (x5 : Int32) (y0 : Int64) (y1 : Int64) (σ : rs_Mem) : Prop :=
  (((lg_cmp y0 y1) = 0 → (∀ x51 : Int32, x51 = x5 + (5 : Int32) → (K28 v1 v2 v3 v4 x51 σ))) ∧ (¬ ((lg_cmp y0 y1) = 0) → False))
def B_La_law_509 (N : Nat → Nat) (xs : Nat → Int32) (L : Nat) (K28 : Nat → Nat → Nat → Nat → Int32 → rs_Mem → Prop) (v1 : Nat) (v2 : Nat) (v3 : Nat) (v4 : Nat) (x5 : Int32) (y0 : Int64) (y1 : Int64) (σ : rs_Mem) : Prop :=
  (((lg_cmp y0 y1) = 0 → (∀ x51 : Int32, x51 = x5 + (5 : Int32) → (K28 v1 v2 v3 v4 x51 σ))) ∧ (¬ ((lg_cmp y0 y1) = 0) → False))
def B_La_law_572 (N : Nat → Nat) (xs : Nat → Int32) (L : Nat) (K28 : Nat → Nat → Nat → Nat → Int32 → rs_Mem → Prop) (v1 : Nat) (v2 : Nat) (v3 : Nat) (v4 : Nat) (x5 : Int32) (y0 : Int64) (y1 : Int64) (σ : rs_Mem) : Prop :=
  (((lg_cmp y0 y1) = 0 → (∀ x51 : Int32, x51 = x5 + (5 : Int32) → (K28 v1 v2 v3 v4 x51 σ))) ∧ (¬ ((lg_cmp y0 y1) = 0) → False))
def G_La_law_28 (N : Nat → Nat) (xs : Nat → Int32) (L : Nat) (K28 : Nat → Nat → Nat → Nat → Int32 → rs_Mem → Prop) (v1 : Nat) (v2 : Nat) (v3 : Nat) (v4 : Nat) (x5 : Int32) (σ : rs_Mem) : Prop :=
  ((((Int32.ofNat L) - (5 : Int32)) < x5 → True) ∧ (¬ (((Int32.ofNat L) - (5 : Int32)) < x5) → (vp_in x5 L ∧ (((((xs x5.toNatClampNeg) &&& (31 : Int32)).toInt < 0 ∨ 16 < ((xs x5.toNatClampNeg) &&& (31 : Int32)).toInt) → (∀ x52 : Int32, x52 = x5 + (5 : Int32) → (K28 v1 v2 v3 v4 x52 σ))) ∧ (((xs x5.toNatClampNeg) &&& (31 : Int32)) = 0 → (vp_in (x5 + (1 : Int32)) L ∧ (vp_in (x5 + (2 : Int32)) L ∧ (vp_in (x5 + (3 : Int32)) L ∧ (F_La_peer N v1 (xs (x5 + (1 : Int32)).toNatClampNeg) (xs (x5 + (2 : Int32)).toNatClampNeg) (xs (x5 + (3 : Int32)).toNatClampNeg) σ (fun x56 σ55 => (vp_in (x5 + (1 : Int32)) L ∧ (vp_in (x5 + (2 : Int32)) L ∧ (vp_in (x5 + (3 : Int32)) L ∧ (F_Mo_peer N v2 (xs (x5 + (1 : Int32)).toNatClampNeg) (xs (x5 + (2 : Int32)).toNatClampNeg) (xs (x5 + (3 : Int32)).toNatClampNeg) σ55 (fun σ61 => (F_Mo_thrown N v2 σ61 (fun x64 σ63 => ((x64 = x56 → (∀ x65 : Int32, x65 = x5 + (5 : Int32) → (K28 v1 v2 v3 v4 x65 σ63))) ∧ (¬ (x64 = x56) → False))))))))))))))) ∧ (((xs x5.toNatClampNeg) &&& (31 : Int32)) = 1 → (vp_in (x5 + (1 : Int32)) L ∧ (vp_in (x5 + (2 : Int32)) L ∧ (vp_in (x5 + (3 : Int32)) L ∧ (vp_in (x5 + (4 : Int32)) L ∧ (F_La_rule N v1 (xs (x5 + (1 : Int32)).toNatClampNeg) (xs (x5 + (2 : Int32)).toNatClampNeg) (xs (x5 + (3 : Int32)).toNatClampNeg) (xs (x5 + (4 : Int32)).toNatClampNeg) σ (fun x57 σ56 => (vp_in (x5 + (1 : Int32)) L ∧ (vp_in (x5 + (2 : Int32)) L ∧ (vp_in (x5 + (3 : Int32)) L ∧ (vp_in (x5 + (4 : Int32)) L ∧ (F_Mo_rule N v2 (xs (x5 + (1 : Int32)).toNatClampNeg) (xs (x5 + (2 : Int32)).toNatClampNeg) (xs (x5 + (3 : Int32)).toNatClampNeg) (xs (x5 + (4 : Int32)).toNatClampNeg) σ56 (fun σ63 => (F_Mo_thrown N v2 σ63 (fun x66 σ65 => ((x66 = x57 → (∀ x67 : Int32, x67 = x5 + (5 : Int32) → (K28 v1 v2 v3 v4 x67 σ65))) ∧ (¬ (x66 = x57) → False))))))))))))))))) ∧ (((xs x5.toNatClampNeg) &&& (31 : Int32)) = 2 → (vp_in (x5 + (1 : Int32)) L ∧ (F_La_unrule N v1 (xs (x5 + (1 : Int32)).toNatClampNeg) σ (fun x54 σ53 => (vp_in (x5 + (1 : Int32)) L ∧ (F_Mo_unrule N v2 (xs (x5 + (1 : Int32)).toNatClampNeg) σ53 (fun σ57 => (F_Mo_thrown N v2 σ57 (fun x60 σ59 => ((x60 = x54 → (∀ x61 : Int32, x61 = x5 + (5 : Int32) → (K28 v1 v2 v3 v4 x61 σ59))) ∧ (¬ (x60 = x54) → False))))))))))) ∧ (((xs x5.toNatClampNeg) &&& (31 : Int32)) = 3 → (vp_in (x5 + (1 : Int32)) L ∧ (vp_in (x5 + (2 : Int32)) L ∧ (vp_in (x5 + (3 : Int32)) L ∧ (vp_in (x5 + (4 : Int32)) L ∧ (F_La_outbound N v1 (xs (x5 + (1 : Int32)).toNatClampNeg) (xs (x5 + (2 : Int32)).toNatClampNeg) (xs (x5 + (3 : Int32)).toNatClampNeg) (xs (x5 + (4 : Int32)).toNatClampNeg) σ (fun x57 σ56 => (vp_in (x5 + (1 : Int32)) L ∧ (vp_in (x5 + (2 : Int32)) L ∧ (vp_in (x5 + (3 : Int32)) L ∧ (vp_in (x5 + (4 : Int32)) L ∧ (F_Mo_outbound N v2 (xs (x5 + (1 : Int32)).toNatClampNeg) (xs (x5 + (2 : Int32)).toNatClampNeg) (xs (x5 + (3 : Int32)).toNatClampNeg) (xs (x5 + (4 : Int32)).toNatClampNeg) σ56 (fun σ63 => (F_Mo_thrown N v2 σ63 (fun x66 σ65 => ((x66 = x57 → (∀ x67 : Int32, x67 = x5 + (5 : Int32) → (K28 v1 v2 v3 v4 x67 σ65))) ∧ (¬ (x66 = x57) → False))))))))))))))))) ∧ (((xs x5.toNatClampNeg) &&& (31 : Int32)) = 4 → (vp_in (x5 + (1 : Int32)) L ∧ (vp_in (x5 + (2 : Int32)) L ∧ (F_La_originate N v1 (xs (x5 + (1 : Int32)).toNatClampNeg) (xs (x5 + (2 : Int32)).toNatClampNeg) v3 σ (fun x55 σ54 => (vp_in (x5 + (1 : Int32)) L ∧ (vp_in (x5 + (2 : Int32)) L ∧ (F_Mo_originate N v2 (xs (x5 + (1 : Int32)).toNatClampNeg) (xs (x5 + (2 : Int32)).toNatClampNeg) σ54 (fun x60 σ59 => (F_Mo_thrown N v2 σ59 (fun x63 σ62 => ((x63 = x55 → ((¬ (x55 = 0) → (∀ x64 : Int32, x64 = x5 + (5 : Int32) → (K28 v1 v2 v3 v4 x64 σ62))) ∧ (x55 = 0 → (vp_in (0 : Int32) (N v3) ∧ ((x60 = 0 → (B_La_law_434 N xs L K28 v1 v2 v3 v4 x5 (rs_L σ62 v3 (0 : Int32).toNatClampNeg) (0 : Int64) σ62)) ∧ (¬ (x60 = 0) → (B_La_law_434 N xs L K28 v1 v2 v3 v4 x5 (rs_L σ62 v3 (0 : Int32).toNatClampNeg) (1 : Int64) σ62))))))) ∧ (¬ (x63 = x55) → False))))))))))))) ∧ (((xs x5.toNatClampNeg) &&& (31 : Int32)) = 5 → (vp_in (x5 + (1 : Int32)) L ∧ (vp_in (x5 + (2 : Int32)) L ∧ (F_La_retract N v1 (xs (x5 + (1 : Int32)).toNatClampNeg) (xs (x5 + (2 : Int32)).toNatClampNeg) v3 σ (fun x55 σ54 => (vp_in (x5 + (1 : Int32)) L ∧ (vp_in (x5 + (2 : Int32)) L ∧ (F_Mo_retract N v2 (xs (x5 + (1 : Int32)).toNatClampNeg) (xs (x5 + (2 : Int32)).toNatClampNeg) σ54 (fun x60 σ59 => (F_Mo_thrown N v2 σ59 (fun x63 σ62 => ((x63 = x55 → ((¬ (x55 = 0) → (∀ x64 : Int32, x64 = x5 + (5 : Int32) → (K28 v1 v2 v3 v4 x64 σ62))) ∧ (x55 = 0 → (vp_in (0 : Int32) (N v3) ∧ ((x60 = 0 → (B_La_law_509 N xs L K28 v1 v2 v3 v4 x5 (rs_L σ62 v3 (0 : Int32).toNatClampNeg) (0 : Int64) σ62)) ∧ (¬ (x60 = 0) → (B_La_law_509 N xs L K28 v1 v2 v3 v4 x5 (rs_L σ62 v3 (0 : Int32).toNatClampNeg) (1 : Int64) σ62))))))) ∧ (¬ (x63 = x55) → False))))))))))))) ∧ (((xs x5.toNatClampNeg) &&& (31 : Int32)) = 6 → (vp_in (x5 + (1 : Int32)) L ∧ (F_La_start N v1 (xs (x5 + (1 : Int32)).toNatClampNeg) v3 σ (fun x54 σ53 => (vp_in (x5 + (1 : Int32)) L ∧ (F_Mo_start N v2 (xs (x5 + (1 : Int32)).toNatClampNeg) σ53 (fun x58 σ57 => (F_Mo_thrown N v2 σ57 (fun x61 σ60 => ((x61 = x54 → ((¬ (x54 = 0) → (∀ x62 : Int32, x62 = x5 + (5 : Int32) → (K28 v1 v2 v3 v4 x62 σ60))) ∧ (x54 = 0 → (vp_in (0 : Int32) (N v3) ∧ ((x58 = 0 → (B_La_law_572 N xs L K28 v1 v2 v3 v4 x5 (rs_L σ60 v3 (0 : Int32).toNatClampNeg) (0 : Int64) σ60)) ∧ (¬ (x58 = 0) → (B_La_law_572 N xs L K28 v1 v2 v3 v4 x5 (rs_L σ60 v3 (0 : Int32).toNatClampNeg) (1 : Int64) σ60))))))) ∧ (¬ (x61 = x54) → False))))))))))) ∧ (((xs x5.toNatClampNeg) &&& (31 : Int32)) = 7 → (vp_in (x5 + (1 : Int32)) L ∧ (F_La_stop N v1 (xs (x5 + (1 : Int32)).toNatClampNeg) v3 σ (fun x54 σ53 => (vp_in (x5 + (1 : Int32)) L ∧ (F_Mo_stop N v2 (xs (x5 + (1 : Int32)).toNatClampNeg) σ53 (fun x58 σ57 => (F_Mo_thrown N v2 σ57 (fun x61 σ60 => ((x61 = x54 → ((¬ (x54 = 0) → (∀ x62 : Int32, x62 = x5 + (5 : Int32) → (K28 v1 v2 v3 v4 x62 σ60))) ∧ (x54 = 0 → (vp_in (0 : Int32) (N v3) ∧ ((x58 = 0 → (B_La_law_635 N xs L K28 v1 v2 v3 v4 x5 (rs_L σ60 v3 (0 : Int32).toNatClampNeg) (0 : Int64) σ60)) ∧ (¬ (x58 = 0) → (B_La_law_635 N xs L K28 v1 v2 v3 v4 x5 (rs_L σ60 v3 (0 : Int32).toNatClampNeg) (1 : Int64) σ60))))))) ∧ (¬ (x61 = x54) → False))))))))))) ∧ (((xs x5.toNatClampNeg) &&& (31 : Int32)) = 8 → (vp_in (x5 + (1 : Int32)) L ∧ (vp_in (x5 + (2 : Int32)) L ∧ (vp_in (x5 + (3 : Int32)) L ∧ (vp_in (x5 + (4 : Int32)) L ∧ (F_La_feed N v1 (xs (x5 + (1 : Int32)).toNatClampNeg) ((((xs (x5 + (2 : Int32)).toNatClampNeg).toInt64) <<< ((32 : Int32).toInt64 &&& 63)) ||| (((xs (x5 + (3 : Int32)).toNatClampNeg).toInt64) &&& (4294967295 : Int64))) (xs (x5 + (4 : Int32)).toNatClampNeg) v3 σ (fun x57 σ56 => (vp_in (x5 + (1 : Int32)) L ∧ (vp_in (x5 + (2 : Int32)) L ∧ (vp_in (x5 + (3 : Int32)) L ∧ (vp_in (x5 + (4 : Int32)) L ∧ (F_Mo_feed N v2 (xs (x5 + (1 : Int32)).toNatClampNeg) ((((xs (x5 + (2 : Int32)).toNatClampNeg).toInt64) <<< ((32 : Int32).toInt64 &&& 63)) ||| (((xs (x5 + (3 : Int32)).toNatClampNeg).toInt64) &&& (4294967295 : Int64))) (xs (x5 + (4 : Int32)).toNatClampNeg) σ56 (fun x64 σ63 => (F_Mo_thrown N v2 σ63 (fun x67 σ66 => ((x67 = x57 → ((¬ (x57 = 0) → (∀ x68 : Int32, x68 = x5 + (5 : Int32) → (K28 v1 v2 v3 v4 x68 σ66))) ∧ (x57 = 0 → (vp_in (0 : Int32) (N v3) ∧ ((x64 = 0 → (B_La_law_754 N xs L K28 v1 v2 v3 v4 x5 (rs_L σ66 v3 (0 : Int32).toNatClampNeg) (0 : Int64) σ66)) ∧ (¬ (x64 = 0) → (B_La_law_754 N xs L K28 v1 v2 v3 v4 x5 (rs_L σ66 v3 (0 : Int32).toNatClampNeg) (1 : Int64) σ66))))))) ∧ (¬ (x67 = x57) → False))))))))))))))))) ∧ (((xs x5.toNatClampNeg) &&& (31 : Int32)) = 9 → (vp_in (x5 + (1 : Int32)) L ∧ (F_La_take N v1 (xs (x5 + (1 : Int32)).toNatClampNeg) v3 σ (fun x54 σ53 => (vp_in (x5 + (1 : Int32)) L ∧ (F_Mo_take N v2 (xs (x5 + (1 : Int32)).toNatClampNeg) σ53 (fun x58 σ57 => (F_Mo_thrown N v2 σ57 (fun x61 σ60 => ((x61 = x54 → ((¬ (x54 = 0) → (∀ x62 : Int32, x62 = x5 + (5 : Int32) → (K28 v1 v2 v3 v4 x62 σ60))) ∧ (x54 = 0 → (vp_in (0 : Int32) (N v3) ∧ (((lg_cmp (rs_L σ60 v3 (0 : Int32).toNatClampNeg) (x58.toInt64)) = 0 → (∀ x63 : Int32, x63 = x5 + (5 : Int32) → (K28 v1 v2 v3 v4 x63 σ60))) ∧ (¬ ((lg_cmp (rs_L σ60 v3 (0 : Int32).toNatClampNeg) (x58.toInt64)) = 0) → False)))))) ∧ (¬ (x61 = x54) → False))))))))))) ∧ (((xs x5.toNatClampNeg) &&& (31 : Int32)) = 10 → (F_Sp_tick N v1 σ (fun x54 σ53 => (F_Mo_tick N v2 σ53 (fun x57 σ56 => ((x54 = x57 → (∀ x58 : Int32, x58 = x5 + (5 : Int32) → (K28 v1 v2 v3 v4 x58 σ56))) ∧ (¬ (x54 = x57) → False))))))) ∧ (((xs x5.toNatClampNeg) &&& (31 : Int32)) = 11 → (vp_in (x5 + (1 : Int32)) L ∧ (vp_in (x5 + (2 : Int32)) L ∧ (F_Sp_session N v1 (xs (x5 + (1 : Int32)).toNatClampNeg) (xs (x5 + (2 : Int32)).toNatClampNeg) σ (fun x56 σ55 => (vp_in (x5 + (1 : Int32)) L ∧ (vp_in (x5 + (2 : Int32)) L ∧ (F_Mo_session N v2 (xs (x5 + (1 : Int32)).toNatClampNeg) (xs (x5 + (2 : Int32)).toNatClampNeg) σ55 (fun x61 σ60 => ((x56 = x61 → (∀ x62 : Int32, x62 = x5 + (5 : Int32) → (K28 v1 v2 v3 v4 x62 σ60))) ∧ (¬ (x56 = x61) → False))))))))))) ∧ (((xs x5.toNatClampNeg) &&& (31 : Int32)) = 12 → (vp_in (x5 + (1 : Int32)) L ∧ (vp_in (x5 + (2 : Int32)) L ∧ (vp_in (x5 + (3 : Int32)) L ∧ (F_La_best N v1 (xs (x5 + (1 : Int32)).toNatClampNeg) (xs (x5 + (2 : Int32)).toNatClampNeg) (xs (x5 + (3 : Int32)).toNatClampNeg) v3 σ (fun x56 σ55 => (vp_in (x5 + (1 : Int32)) L ∧ (vp_in (x5 + (2 : Int32)) L ∧ (vp_in (x5 + (3 : Int32)) L ∧ (F_Mo_best N v2 (xs (x5 + (1 : Int32)).toNatClampNeg) (xs (x5 + (2 : Int32)).toNatClampNeg) (xs (x5 + (3 : Int32)).toNatClampNeg) σ55 (fun x62 σ61 => (F_Mo_thrown N v2 σ61 (fun x65 σ64 => ((x65 = x56 → ((¬ (x56 = 0) → (∀ x66 : Int32, x66 = x5 + (5 : Int32) → (K28 v1 v2 v3 v4 x66 σ64))) ∧ (x56 = 0 → (vp_in (0 : Int32) (N v3) ∧ (((lg_cmp (rs_L σ64 v3 (0 : Int32).toNatClampNeg) (x62.toInt64)) = 0 → (∀ x67 : Int32, x67 = x5 + (5 : Int32) → (K28 v1 v2 v3 v4 x67 σ64))) ∧ (¬ ((lg_cmp (rs_L σ64 v3 (0 : Int32).toNatClampNeg) (x62.toInt64)) = 0) → False)))))) ∧ (¬ (x65 = x56) → False))))))))))))))) ∧ (((xs x5.toNatClampNeg) &&& (31 : Int32)) = 13 → (vp_in (x5 + (1 : Int32)) L ∧ (vp_in (x5 + (2 : Int32)) L ∧ (vp_in (x5 + (3 : Int32)) L ∧ (F_La_flaw N v1 (xs (x5 + (1 : Int32)).toNatClampNeg) (xs (x5 + (2 : Int32)).toNatClampNeg) (xs (x5 + (3 : Int32)).toNatClampNeg) v3 σ (fun x56 σ55 => (vp_in (x5 + (1 : Int32)) L ∧ (vp_in (x5 + (2 : Int32)) L ∧ (vp_in (x5 + (3 : Int32)) L ∧ (F_Mo_flaw N v2 (xs (x5 + (1 : Int32)).toNatClampNeg) (xs (x5 + (2 : Int32)).toNatClampNeg) (xs (x5 + (3 : Int32)).toNatClampNeg) σ55 (fun x62 σ61 => (F_Mo_thrown N v2 σ61 (fun x65 σ64 => ((x65 = x56 → ((¬ (x56 = 0) → (∀ x66 : Int32, x66 = x5 + (5 : Int32) → (K28 v1 v2 v3 v4 x66 σ64))) ∧ (x56 = 0 → (vp_in (0 : Int32) (N v3) ∧ (((lg_cmp (rs_L σ64 v3 (0 : Int32).toNatClampNeg) (x62.toInt64)) = 0 → (∀ x67 : Int32, x67 = x5 + (5 : Int32) → (K28 v1 v2 v3 v4 x67 σ64))) ∧ (¬ ((lg_cmp (rs_L σ64 v3 (0 : Int32).toNatClampNeg) (x62.toInt64)) = 0) → False)))))) ∧ (¬ (x65 = x56) → False))))))))))))))) ∧ (((xs x5.toNatClampNeg) &&& (31 : Int32)) = 14 → (vp_in (x5 + (1 : Int32)) L ∧ (vp_in (x5 + (2 : Int32)) L ∧ (vp_in (x5 + (3 : Int32)) L ∧ (F_La_penalty N v1 (xs (x5 + (1 : Int32)).toNatClampNeg) (xs (x5 + (2 : Int32)).toNatClampNeg) (xs (x5 + (3 : Int32)).toNatClampNeg) v4 σ (fun x56 σ55 => (vp_in (x5 + (1 : Int32)) L ∧ (vp_in (x5 + (2 : Int32)) L ∧ (vp_in (x5 + (3 : Int32)) L ∧ (F_Mo_penalty N v2 (xs (x5 + (1 : Int32)).toNatClampNeg) (xs (x5 + (2 : Int32)).toNatClampNeg) (xs (x5 + (3 : Int32)).toNatClampNeg) σ55 (fun x62 σ61 => (F_Mo_thrown N v2 σ61 (fun x65 σ64 => ((x65 = x56 → ((¬ (x56 = 0) → (∀ x66 : Int32, x66 = x5 + (5 : Int32) → (K28 v1 v2 v3 v4 x66 σ64))) ∧ (x56 = 0 → (vp_in (0 : Int32) (N v4) ∧ (((Op.cmpValue (FP.dcmp (rs_D σ64 v4 (0 : Int32).toNatClampNeg) x62) .l) = 0 → (∀ x67 : Int32, x67 = x5 + (5 : Int32) → (K28 v1 v2 v3 v4 x67 σ64))) ∧ (¬ ((Op.cmpValue (FP.dcmp (rs_D σ64 v4 (0 : Int32).toNatClampNeg) x62) .l) = 0) → (vp_in (0 : Int32) (N v4) ∧ (vp_in (0 : Int32) (N v4) ∧ (((Op.cmpValue (FP.dcmp (rs_D σ64 v4 (0 : Int32).toNatClampNeg) (rs_D σ64 v4 (0 : Int32).toNatClampNeg)) .l) = 0 → False) ∧ (¬ ((Op.cmpValue (FP.dcmp (rs_D σ64 v4 (0 : Int32).toNatClampNeg) (rs_D σ64 v4 (0 : Int32).toNatClampNeg)) .l) = 0) → ((¬ ((Op.cmpValue (FP.dcmp x62 x62) .l) = 0) → (∀ x69 : Int32, x69 = x5 + (5 : Int32) → (K28 v1 v2 v3 v4 x69 σ64))) ∧ ((Op.cmpValue (FP.dcmp x62 x62) .l) = 0 → False)))))))))))) ∧ (¬ (x65 = x56) → False))))))))))))))) ∧ (((xs x5.toNatClampNeg) &&& (31 : Int32)) = 15 → (vp_in (x5 + (1 : Int32)) L ∧ (F_La_forward N v1 (xs (x5 + (1 : Int32)).toNatClampNeg) v3 σ (fun x54 σ53 => (vp_in (x5 + (1 : Int32)) L ∧ (F_Mo_forward N v2 (xs (x5 + (1 : Int32)).toNatClampNeg) σ53 (fun x58 σ57 => (F_Mo_thrown N v2 σ57 (fun x61 σ60 => ((x61 = x54 → ((¬ (x54 = 0) → (∀ x62 : Int32, x62 = x5 + (5 : Int32) → (K28 v1 v2 v3 v4 x62 σ60))) ∧ (x54 = 0 → (vp_in (0 : Int32) (N v3) ∧ (((lg_cmp (rs_L σ60 v3 (0 : Int32).toNatClampNeg) (x58.toInt64)) = 0 → (∀ x63 : Int32, x63 = x5 + (5 : Int32) → (K28 v1 v2 v3 v4 x63 σ60))) ∧ (¬ ((lg_cmp (rs_L σ60 v3 (0 : Int32).toNatClampNeg) (x58.toInt64)) = 0) → False)))))) ∧ (¬ (x61 = x54) → False))))))))))) ∧ (((xs x5.toNatClampNeg) &&& (31 : Int32)) = 16 → (F_Sp_known N v1 σ (fun x54 σ53 => (F_Mo_known N v2 σ53 (fun x57 σ56 => ((x54 = x57 → (∀ x58 : Int32, x58 = x5 + (5 : Int32) → (K28 v1 v2 v3 v4 x58 σ56))) ∧ (¬ (x54 = x57) → False)))))))))))
noncomputable def L_La_law_28 (N : Nat → Nat) (xs : Nat → Int32) (L : Nat) (n : Nat) : Nat → Nat → Nat → Nat → Int32 → rs_Mem → Prop := Nat.rec (motive := fun _ => Nat → Nat → Nat → Nat → Int32 → rs_Mem → Prop) (fun _ _ _ _ _ _ => False) (fun _ K => G_La_law_28 N xs L K) n
theorem rs_lret {p : Program} {l : Launch} {e : Env} {s : State} {m : MethodId} {args : Array Value} {below : List Frame} {meth : Method} {c : Code} {H : Heap} {locs : List Loc} {cs ss : Nat} {pc : Nat} {ls : Array Slot} {G : rs_G} {Bm b : Nat} (C : rs_C "RouteSpeakerLaw" code 9 ret G p s m meth c args) (hBm : Bm + 1 = s.heap.size) (hargs : args = #[Value.ref b]) (hS : va_S (rs_A Bm) s.heap H locs) (h1 : cs ≤ 601024) (h2 : ss ≤ 7293034) (hdg : decode code pc = .ok (.ireturn, 1)) :
    W p l e room_1 s m args below meth c H locs cs ss (lw_Z below args s) (F0 m pc ls [.int 1]) := by
  subst hargs
  refine va_forget (fun q hq => by have h : Bm < q.base := hS.2.2 q hq; omega) ?_
  refine W.widen (k := 601024) (n := 7293034) h1 h2 ?_
  exact lw_ret C.1 C.2.1 C.2.2.2.1 C.2.2.2.2.2.2.2 hdg
set_option maxRecDepth 20000 in
theorem JB_La_law_434 {p : Program} {l : Launch} {e : Env} {s : State} {m : MethodId} {args : Array Value} {below : List Frame} {meth : Method} {c : Code} {G : rs_G} {Bm : Nat} {S : rs_Shp} {b L : Nat} {xs : Nat → Int32} {n : Nat} {K28 : Nat → Nat → Nat → Nat → Int32 → rs_Mem → Prop} (C : rs_C "RouteSpeakerLaw" code 9 ret G p s m meth c args) (hfl : l.flags = flags0) (hX : rs_X Bm s) (hBm : Bm + 1 = s.heap.size) (hV : va_X b L xs s s.heap) (hbl : b < s.heap.size) (hargs : args = #[Value.ref b]) (hK28 : ∀ (v1 : Nat) (v2 : Nat) (v3 : Nat) (v4 : Nat) (x5 : Int32) (σ : rs_Mem) (H : Heap) (locs : List Loc) (ls : Array Slot) (cs ss : Nat), cs + n ≤ 601024 → ss + 6 * n ≤ 7293034 → rs_Ok S 1 v1 → rs_Ok S 11 v2 → rs_Ok S 22 v3 → rs_Ok S 23 v4 → rs_H G Bm S σ H → rs_T S σ → va_S (rs_A Bm) s.heap H locs → lv_has ls 9 [(0, .ref b), (1, .ref (Bm + v1)), (2, .ref (Bm + v2)), (3, .ref (Bm + v3)), (4, .ref (Bm + v4)), (5, .int x5)] → K28 v1 v2 v3 v4 x5 σ → W p l e room_1 s m args below meth c H locs cs ss (lw_Z below args s) (F0 m 28 ls [])) (v1 : Nat) (v2 : Nat) (v3 : Nat) (v4 : Nat) (x5 : Int32) (y0 : Int64) (y1 : Int64) (σ : rs_Mem) (H : Heap) (locs : List Loc) (ls : Array Slot) (cs ss : Nat) (hc1 : cs + n ≤ 601024) (hc2 : ss + 6 * n ≤ 7293034) (h_v1 : rs_Ok S 1 v1) (h_v2 : rs_Ok S 11 v2) (h_v3 : rs_Ok S 22 v3) (h_v4 : rs_Ok S 23 v4) (hH : rs_H G Bm S σ H) (hT : rs_T S σ) (hS : va_S (rs_A Bm) s.heap H locs) (hl : lv_has ls 9 [(0, .ref b), (1, .ref (Bm + v1)), (2, .ref (Bm + v2)), (3, .ref (Bm + v3)), (4, .ref (Bm + v4)), (5, .int x5)]) (hF : B_La_law_434 S.2.2 xs L K28 v1 v2 v3 v4 x5 y0 y1 σ) :
    W p l e room_1 s m args below meth c H locs cs ss (lw_Z below args s) (F0 m 434 ls [.long y1, .long y0]) := by
  have hx := C.1
  have hb := C.2.1
  have hbA : ¬ rs_A Bm b := fun h => by have h2 : Bm < b := h; omega
  unfold B_La_law_434 at hF
  refine W.lcmp hx hb d_La_law_434 ?_
  refine lv_if_eq hx hb d_La_law_435 (tgt := 440) rfl (fun hc => ?_) (fun hc => ?_)
  · replace hF := hF.1 hc
    refine lv_goto hx hb d_La_law_440 (tgt := 1199) rfl ?_
    obtain ⟨x51, ex51⟩ : ∃ z : Int32, z = x5 + (5 : Int32) := ⟨_, rfl⟩
    replace hF := hF x51 ex51
    refine lv_iinc hx hb d_La_law_1199 hl (k := 5) rfl (v := x51) (by rw [ki_5, ex51]) (by decide) (lv' := [(5, .int x51), (0, .ref b), (1, .ref (Bm + v1)), (2, .ref (Bm + v2)), (3, .ref (Bm + v3)), (4, .ref (Bm + v4))]) rfl (fun ls hl => ?_)
    refine lv_goto hx hb d_La_law_1202 (tgt := 28) rfl ?_
    exact hK28 v1 v2 v3 v4 x51 σ _ _ _ _ _ (by omega) (by omega) h_v1 h_v2 h_v3 h_v4 hH hT hS (lv_sub hl [1, 2, 3, 4, 5, 0] rfl) hF
  · replace hF := hF.2 hc
    refine lv_iconst hx hb d_La_law_438 ki_0 ?_
    exact hF.elim
set_option maxRecDepth 20000 in
theorem JB_La_law_754 {p : Program} {l : Launch} {e : Env} {s : State} {m : MethodId} {args : Array Value} {below : List Frame} {meth : Method} {c : Code} {G : rs_G} {Bm : Nat} {S : rs_Shp} {b L : Nat} {xs : Nat → Int32} {n : Nat} {K28 : Nat → Nat → Nat → Nat → Int32 → rs_Mem → Prop} (C : rs_C "RouteSpeakerLaw" code 9 ret G p s m meth c args) (hfl : l.flags = flags0) (hX : rs_X Bm s) (hBm : Bm + 1 = s.heap.size) (hV : va_X b L xs s s.heap) (hbl : b < s.heap.size) (hargs : args = #[Value.ref b]) (hK28 : ∀ (v1 : Nat) (v2 : Nat) (v3 : Nat) (v4 : Nat) (x5 : Int32) (σ : rs_Mem) (H : Heap) (locs : List Loc) (ls : Array Slot) (cs ss : Nat), cs + n ≤ 601024 → ss + 6 * n ≤ 7293034 → rs_Ok S 1 v1 → rs_Ok S 11 v2 → rs_Ok S 22 v3 → rs_Ok S 23 v4 → rs_H G Bm S σ H → rs_T S σ → va_S (rs_A Bm) s.heap H locs → lv_has ls 9 [(0, .ref b), (1, .ref (Bm + v1)), (2, .ref (Bm + v2)), (3, .ref (Bm + v3)), (4, .ref (Bm + v4)), (5, .int x5)] → K28 v1 v2 v3 v4 x5 σ → W p l e room_1 s m args below meth c H locs cs ss (lw_Z below args s) (F0 m 28 ls [])) (v1 : Nat) (v2 : Nat) (v3 : Nat) (v4 : Nat) (x5 : Int32) (y0 : Int64) (y1 : Int64) (σ : rs_Mem) (H : Heap) (locs : List Loc) (ls : Array Slot) (cs ss : Nat) (hc1 : cs + n ≤ 601024) (hc2 : ss + 6 * n ≤ 7293034) (h_v1 : rs_Ok S 1 v1) (h_v2 : rs_Ok S 11 v2) (h_v3 : rs_Ok S 22 v3) (h_v4 : rs_Ok S 23 v4) (hH : rs_H G Bm S σ H) (hT : rs_T S σ) (hS : va_S (rs_A Bm) s.heap H locs) (hl : lv_has ls 9 [(0, .ref b), (1, .ref (Bm + v1)), (2, .ref (Bm + v2)), (3, .ref (Bm + v3)), (4, .ref (Bm + v4)), (5, .int x5)]) (hF : B_La_law_754 S.2.2 xs L K28 v1 v2 v3 v4 x5 y0 y1 σ) :
    W p l e room_1 s m args below meth c H locs cs ss (lw_Z below args s) (F0 m 754 ls [.long y1, .long y0]) := by
  have hx := C.1
  have hb := C.2.1
  have hbA : ¬ rs_A Bm b := fun h => by have h2 : Bm < b := h; omega
  unfold B_La_law_754 at hF
  refine W.lcmp hx hb d_La_law_754 ?_
  refine lv_if_eq hx hb d_La_law_755 (tgt := 760) rfl (fun hc => ?_) (fun hc => ?_)
  · replace hF := hF.1 hc
    refine lv_goto hx hb d_La_law_760 (tgt := 1199) rfl ?_
    obtain ⟨x51, ex51⟩ : ∃ z : Int32, z = x5 + (5 : Int32) := ⟨_, rfl⟩
    replace hF := hF x51 ex51
    refine lv_iinc hx hb d_La_law_1199 hl (k := 5) rfl (v := x51) (by rw [ki_5, ex51]) (by decide) (lv' := [(5, .int x51), (0, .ref b), (1, .ref (Bm + v1)), (2, .ref (Bm + v2)), (3, .ref (Bm + v3)), (4, .ref (Bm + v4))]) rfl (fun ls hl => ?_)
    refine lv_goto hx hb d_La_law_1202 (tgt := 28) rfl ?_
    exact hK28 v1 v2 v3 v4 x51 σ _ _ _ _ _ (by omega) (by omega) h_v1 h_v2 h_v3 h_v4 hH hT hS (lv_sub hl [1, 2, 3, 4, 5, 0] rfl) hF
  · replace hF := hF.2 hc
    refine lv_iconst hx hb d_La_law_758 ki_0 ?_
    exact hF.elim
set_option maxRecDepth 20000 in
theorem JB_La_law_635 {p : Program} {l : Launch} {e : Env} {s : State} {m : MethodId} {args : Array Value} {below : List Frame} {meth : Method} {c : Code} {G : rs_G} {Bm : Nat} {S : rs_Shp} {b L : Nat} {xs : Nat → Int32} {n : Nat} {K28 : Nat → Nat → Nat → Nat → Int32 → rs_Mem → Prop} (C : rs_C "RouteSpeakerLaw" code 9 ret G p s m meth c args) (hfl : l.flags = flags0) (hX : rs_X Bm s) (hBm : Bm + 1 = s.heap.size) (hV : va_X b L xs s s.heap) (hbl : b < s.heap.size) (hargs : args = #[Value.ref b]) (hK28 : ∀ (v1 : Nat) (v2 : Nat) (v3 : Nat) (v4 : Nat) (x5 : Int32) (σ : rs_Mem) (H : Heap) (locs : List Loc) (ls : Array Slot) (cs ss : Nat), cs + n ≤ 601024 → ss + 6 * n ≤ 7293034 → rs_Ok S 1 v1 → rs_Ok S 11 v2 → rs_Ok S 22 v3 → rs_Ok S 23 v4 → rs_H G Bm S σ H → rs_T S σ → va_S (rs_A Bm) s.heap H locs → lv_has ls 9 [(0, .ref b), (1, .ref (Bm + v1)), (2, .ref (Bm + v2)), (3, .ref (Bm + v3)), (4, .ref (Bm + v4)), (5, .int x5)] → K28 v1 v2 v3 v4 x5 σ → W p l e room_1 s m args below meth c H locs cs ss (lw_Z below args s) (F0 m 28 ls [])) (v1 : Nat) (v2 : Nat) (v3 : Nat) (v4 : Nat) (x5 : Int32) (y0 : Int64) (y1 : Int64) (σ : rs_Mem) (H : Heap) (locs : List Loc) (ls : Array Slot) (cs ss : Nat) (hc1 : cs + n ≤ 601024) (hc2 : ss + 6 * n ≤ 7293034) (h_v1 : rs_Ok S 1 v1) (h_v2 : rs_Ok S 11 v2) (h_v3 : rs_Ok S 22 v3) (h_v4 : rs_Ok S 23 v4) (hH : rs_H G Bm S σ H) (hT : rs_T S σ) (hS : va_S (rs_A Bm) s.heap H locs) (hl : lv_has ls 9 [(0, .ref b), (1, .ref (Bm + v1)), (2, .ref (Bm + v2)), (3, .ref (Bm + v3)), (4, .ref (Bm + v4)), (5, .int x5)]) (hF : B_La_law_635 S.2.2 xs L K28 v1 v2 v3 v4 x5 y0 y1 σ) :
    W p l e room_1 s m args below meth c H locs cs ss (lw_Z below args s) (F0 m 635 ls [.long y1, .long y0]) := by
  have hx := C.1
  have hb := C.2.1
  have hbA : ¬ rs_A Bm b := fun h => by have h2 : Bm < b := h; omega
  unfold B_La_law_635 at hF
  refine W.lcmp hx hb d_La_law_635 ?_
  refine lv_if_eq hx hb d_La_law_636 (tgt := 641) rfl (fun hc => ?_) (fun hc => ?_)
  · replace hF := hF.1 hc
    refine lv_goto hx hb d_La_law_641 (tgt := 1199) rfl ?_
    obtain ⟨x51, ex51⟩ : ∃ z : Int32, z = x5 + (5 : Int32) := ⟨_, rfl⟩
    replace hF := hF x51 ex51
    refine lv_iinc hx hb d_La_law_1199 hl (k := 5) rfl (v := x51) (by rw [ki_5, ex51]) (by decide) (lv' := [(5, .int x51), (0, .ref b), (1, .ref (Bm + v1)), (2, .ref (Bm + v2)), (3, .ref (Bm + v3)), (4, .ref (Bm + v4))]) rfl (fun ls hl => ?_)
    refine lv_goto hx hb d_La_law_1202 (tgt := 28) rfl ?_
    exact hK28 v1 v2 v3 v4 x51 σ _ _ _ _ _ (by omega) (by omega) h_v1 h_v2 h_v3 h_v4 hH hT hS (lv_sub hl [1, 2, 3, 4, 5, 0] rfl) hF
  · replace hF := hF.2 hc
    refine lv_iconst hx hb d_La_law_639 ki_0 ?_
    exact hF.elim
set_option maxRecDepth 20000 in
theorem JB_La_law_509 {p : Program} {l : Launch} {e : Env} {s : State} {m : MethodId} {args : Array Value} {below : List Frame} {meth : Method} {c : Code} {G : rs_G} {Bm : Nat} {S : rs_Shp} {b L : Nat} {xs : Nat → Int32} {n : Nat} {K28 : Nat → Nat → Nat → Nat → Int32 → rs_Mem → Prop} (C : rs_C "RouteSpeakerLaw" code 9 ret G p s m meth c args) (hfl : l.flags = flags0) (hX : rs_X Bm s) (hBm : Bm + 1 = s.heap.size) (hV : va_X b L xs s s.heap) (hbl : b < s.heap.size) (hargs : args = #[Value.ref b]) (hK28 : ∀ (v1 : Nat) (v2 : Nat) (v3 : Nat) (v4 : Nat) (x5 : Int32) (σ : rs_Mem) (H : Heap) (locs : List Loc) (ls : Array Slot) (cs ss : Nat), cs + n ≤ 601024 → ss + 6 * n ≤ 7293034 → rs_Ok S 1 v1 → rs_Ok S 11 v2 → rs_Ok S 22 v3 → rs_Ok S 23 v4 → rs_H G Bm S σ H → rs_T S σ → va_S (rs_A Bm) s.heap H locs → lv_has ls 9 [(0, .ref b), (1, .ref (Bm + v1)), (2, .ref (Bm + v2)), (3, .ref (Bm + v3)), (4, .ref (Bm + v4)), (5, .int x5)] → K28 v1 v2 v3 v4 x5 σ → W p l e room_1 s m args below meth c H locs cs ss (lw_Z below args s) (F0 m 28 ls [])) (v1 : Nat) (v2 : Nat) (v3 : Nat) (v4 : Nat) (x5 : Int32) (y0 : Int64) (y1 : Int64) (σ : rs_Mem) (H : Heap) (locs : List Loc) (ls : Array Slot) (cs ss : Nat) (hc1 : cs + n ≤ 601024) (hc2 : ss + 6 * n ≤ 7293034) (h_v1 : rs_Ok S 1 v1) (h_v2 : rs_Ok S 11 v2) (h_v3 : rs_Ok S 22 v3) (h_v4 : rs_Ok S 23 v4) (hH : rs_H G Bm S σ H) (hT : rs_T S σ) (hS : va_S (rs_A Bm) s.heap H locs) (hl : lv_has ls 9 [(0, .ref b), (1, .ref (Bm + v1)), (2, .ref (Bm + v2)), (3, .ref (Bm + v3)), (4, .ref (Bm + v4)), (5, .int x5)]) (hF : B_La_law_509 S.2.2 xs L K28 v1 v2 v3 v4 x5 y0 y1 σ) :
    W p l e room_1 s m args below meth c H locs cs ss (lw_Z below args s) (F0 m 509 ls [.long y1, .long y0]) := by
  have hx := C.1
  have hb := C.2.1
  have hbA : ¬ rs_A Bm b := fun h => by have h2 : Bm < b := h; omega
  unfold B_La_law_509 at hF
  refine W.lcmp hx hb d_La_law_509 ?_
  refine lv_if_eq hx hb d_La_law_510 (tgt := 515) rfl (fun hc => ?_) (fun hc => ?_)
  · replace hF := hF.1 hc
    refine lv_goto hx hb d_La_law_515 (tgt := 1199) rfl ?_
    obtain ⟨x51, ex51⟩ : ∃ z : Int32, z = x5 + (5 : Int32) := ⟨_, rfl⟩
    replace hF := hF x51 ex51
    refine lv_iinc hx hb d_La_law_1199 hl (k := 5) rfl (v := x51) (by rw [ki_5, ex51]) (by decide) (lv' := [(5, .int x51), (0, .ref b), (1, .ref (Bm + v1)), (2, .ref (Bm + v2)), (3, .ref (Bm + v3)), (4, .ref (Bm + v4))]) rfl (fun ls hl => ?_)
    refine lv_goto hx hb d_La_law_1202 (tgt := 28) rfl ?_
    exact hK28 v1 v2 v3 v4 x51 σ _ _ _ _ _ (by omega) (by omega) h_v1 h_v2 h_v3 h_v4 hH hT hS (lv_sub hl [1, 2, 3, 4, 5, 0] rfl) hF
  · replace hF := hF.2 hc
    refine lv_iconst hx hb d_La_law_513 ki_0 ?_
    exact hF.elim
set_option maxRecDepth 20000 in
theorem JB_La_law_572 {p : Program} {l : Launch} {e : Env} {s : State} {m : MethodId} {args : Array Value} {below : List Frame} {meth : Method} {c : Code} {G : rs_G} {Bm : Nat} {S : rs_Shp} {b L : Nat} {xs : Nat → Int32} {n : Nat} {K28 : Nat → Nat → Nat → Nat → Int32 → rs_Mem → Prop} (C : rs_C "RouteSpeakerLaw" code 9 ret G p s m meth c args) (hfl : l.flags = flags0) (hX : rs_X Bm s) (hBm : Bm + 1 = s.heap.size) (hV : va_X b L xs s s.heap) (hbl : b < s.heap.size) (hargs : args = #[Value.ref b]) (hK28 : ∀ (v1 : Nat) (v2 : Nat) (v3 : Nat) (v4 : Nat) (x5 : Int32) (σ : rs_Mem) (H : Heap) (locs : List Loc) (ls : Array Slot) (cs ss : Nat), cs + n ≤ 601024 → ss + 6 * n ≤ 7293034 → rs_Ok S 1 v1 → rs_Ok S 11 v2 → rs_Ok S 22 v3 → rs_Ok S 23 v4 → rs_H G Bm S σ H → rs_T S σ → va_S (rs_A Bm) s.heap H locs → lv_has ls 9 [(0, .ref b), (1, .ref (Bm + v1)), (2, .ref (Bm + v2)), (3, .ref (Bm + v3)), (4, .ref (Bm + v4)), (5, .int x5)] → K28 v1 v2 v3 v4 x5 σ → W p l e room_1 s m args below meth c H locs cs ss (lw_Z below args s) (F0 m 28 ls [])) (v1 : Nat) (v2 : Nat) (v3 : Nat) (v4 : Nat) (x5 : Int32) (y0 : Int64) (y1 : Int64) (σ : rs_Mem) (H : Heap) (locs : List Loc) (ls : Array Slot) (cs ss : Nat) (hc1 : cs + n ≤ 601024) (hc2 : ss + 6 * n ≤ 7293034) (h_v1 : rs_Ok S 1 v1) (h_v2 : rs_Ok S 11 v2) (h_v3 : rs_Ok S 22 v3) (h_v4 : rs_Ok S 23 v4) (hH : rs_H G Bm S σ H) (hT : rs_T S σ) (hS : va_S (rs_A Bm) s.heap H locs) (hl : lv_has ls 9 [(0, .ref b), (1, .ref (Bm + v1)), (2, .ref (Bm + v2)), (3, .ref (Bm + v3)), (4, .ref (Bm + v4)), (5, .int x5)]) (hF : B_La_law_572 S.2.2 xs L K28 v1 v2 v3 v4 x5 y0 y1 σ) :
    W p l e room_1 s m args below meth c H locs cs ss (lw_Z below args s) (F0 m 572 ls [.long y1, .long y0]) := by
  have hx := C.1
  have hb := C.2.1
  have hbA : ¬ rs_A Bm b := fun h => by have h2 : Bm < b := h; omega
  unfold B_La_law_572 at hF
  refine W.lcmp hx hb d_La_law_572 ?_
  refine lv_if_eq hx hb d_La_law_573 (tgt := 578) rfl (fun hc => ?_) (fun hc => ?_)
  · replace hF := hF.1 hc
    refine lv_goto hx hb d_La_law_578 (tgt := 1199) rfl ?_
    obtain ⟨x51, ex51⟩ : ∃ z : Int32, z = x5 + (5 : Int32) := ⟨_, rfl⟩
    replace hF := hF x51 ex51
    refine lv_iinc hx hb d_La_law_1199 hl (k := 5) rfl (v := x51) (by rw [ki_5, ex51]) (by decide) (lv' := [(5, .int x51), (0, .ref b), (1, .ref (Bm + v1)), (2, .ref (Bm + v2)), (3, .ref (Bm + v3)), (4, .ref (Bm + v4))]) rfl (fun ls hl => ?_)
    refine lv_goto hx hb d_La_law_1202 (tgt := 28) rfl ?_
    exact hK28 v1 v2 v3 v4 x51 σ _ _ _ _ _ (by omega) (by omega) h_v1 h_v2 h_v3 h_v4 hH hT hS (lv_sub hl [1, 2, 3, 4, 5, 0] rfl) hF
  · replace hF := hF.2 hc
    refine lv_iconst hx hb d_La_law_576 ki_0 ?_
    exact hF.elim
set_option maxRecDepth 20000 in
theorem JL_La_law_28 {p : Program} {l : Launch} {e : Env} {s : State} {m : MethodId} {args : Array Value} {below : List Frame} {meth : Method} {c : Code} {G : rs_G} {Bm : Nat} {S : rs_Shp} {b L : Nat} {xs : Nat → Int32} (C : rs_C "RouteSpeakerLaw" code 9 ret G p s m meth c args) (hfl : l.flags = flags0) (hX : rs_X Bm s) (hBm : Bm + 1 = s.heap.size) (hV : va_X b L xs s s.heap) (hbl : b < s.heap.size) (hargs : args = #[Value.ref b]) : ∀ n : Nat, ∀ (v1 : Nat) (v2 : Nat) (v3 : Nat) (v4 : Nat) (x5 : Int32) (σ : rs_Mem) (H : Heap) (locs : List Loc) (ls : Array Slot) (cs ss : Nat), cs + n ≤ 601024 → ss + 6 * n ≤ 7293034 → rs_Ok S 1 v1 → rs_Ok S 11 v2 → rs_Ok S 22 v3 → rs_Ok S 23 v4 → rs_H G Bm S σ H → rs_T S σ → va_S (rs_A Bm) s.heap H locs → lv_has ls 9 [(0, .ref b), (1, .ref (Bm + v1)), (2, .ref (Bm + v2)), (3, .ref (Bm + v3)), (4, .ref (Bm + v4)), (5, .int x5)] → (L_La_law_28 S.2.2 xs L n) v1 v2 v3 v4 x5 σ → W p l e room_1 s m args below meth c H locs cs ss (lw_Z below args s) (F0 m 28 ls []) := by
  have hx := C.1
  have hb := C.2.1
  have hbA : ¬ rs_A Bm b := fun h => by have h2 : Bm < b := h; omega
  intro n
  induction n with
  | zero => intros; rename_i hF; exact hF.elim
  | succ n hK28 =>
    intro v1 v2 v3 v4 x5 σ H locs ls cs ss hc1 hc2 h_v1 h_v2 h_v3 h_v4 hH hT hS hl hF
    replace hF : G_La_law_28 S.2.2 xs L (L_La_law_28 S.2.2 xs L n) v1 v2 v3 v4 x5 σ := hF
    unfold G_La_law_28 at hF
    refine lv_iload hx hb d_La_law_28 (lv_at hl 5 rfl) ?_
    refine lv_aload_n hx hb d_La_law_30 rfl (lv_at hl 0 rfl) ?_
    refine va_slen hx hb hV hbl hbA hS d_La_law_31 ?_
    refine lv_iconst hx hb d_La_law_32 ki_5 ?_
    refine lv_isub hx hb d_La_law_33 ?_
    refine lv_icmp_gt hx hb d_La_law_34 (tgt := 1205) rfl (fun hc => ?_) (fun hc => ?_)
    · replace hF := hF.1 hc
      refine lv_iconst hx hb d_La_law_1205 ki_1 ?_
      exact rs_lret C hBm hargs hS (by omega) (by omega) d_La_law_1206
    · replace hF := hF.2 hc
      refine lv_aload_n hx hb d_La_law_37 rfl (lv_at hl 0 rfl) ?_
      refine lv_iload hx hb d_La_law_38 (lv_at hl 5 rfl) ?_
      obtain ⟨g51, hF⟩ := hF
      refine va_sld hx hb hV hbl hbA hS g51 d_La_law_40 ?_
      refine lv_bipush hx hb d_La_law_41 kb_31 ?_
      refine lv_iand hx hb d_La_law_43 ?_
      rcases rs_sw_0_16 ((xs x5.toNatClampNeg) &&& (31 : Int32)) with hc | hc | hc | hc | hc | hc | hc | hc | hc | hc | hc | hc | hc | hc | hc | hc | hc | hc
      · replace hF := hF.1 hc
        refine lv_tableOut hx hb d_La_law_44 hc (tgt := 1199) rfl ?_
        obtain ⟨x52, ex52⟩ : ∃ z : Int32, z = x5 + (5 : Int32) := ⟨_, rfl⟩
        replace hF := hF x52 ex52
        refine lv_iinc hx hb d_La_law_1199 hl (k := 5) rfl (v := x52) (by rw [ki_5, ex52]) (by decide) (lv' := [(5, .int x52), (0, .ref b), (1, .ref (Bm + v1)), (2, .ref (Bm + v2)), (3, .ref (Bm + v3)), (4, .ref (Bm + v4))]) rfl (fun ls hl => ?_)
        refine lv_goto hx hb d_La_law_1202 (tgt := 28) rfl ?_
        exact hK28 v1 v2 v3 v4 x52 σ _ _ _ _ _ (by omega) (by omega) h_v1 h_v2 h_v3 h_v4 hH hT hS (lv_sub hl [1, 2, 3, 4, 5, 0] rfl) hF
      · replace hF := hF.2.1 hc
        refine lv_tableIn hx hb d_La_law_44 (by rw [hc]; decide) (by rw [hc]; decide) (off := 84) (by rw [hc]; rfl) (tgt := 128) rfl ?_
        refine lv_aload_n hx hb d_La_law_128 rfl (lv_at hl 1 rfl) ?_
        refine lv_aload_n hx hb d_La_law_129 rfl (lv_at hl 0 rfl) ?_
        refine lv_iload hx hb d_La_law_130 (lv_at hl 5 rfl) ?_
        refine lv_iconst hx hb d_La_law_132 ki_1 ?_
        refine lv_iadd hx hb d_La_law_133 ?_
        obtain ⟨g52, hF⟩ := hF
        refine va_sld hx hb hV hbl hbA hS g52 d_La_law_134 ?_
        refine lv_aload_n hx hb d_La_law_135 rfl (lv_at hl 0 rfl) ?_
        refine lv_iload hx hb d_La_law_136 (lv_at hl 5 rfl) ?_
        refine lv_iconst hx hb d_La_law_138 ki_2 ?_
        refine lv_iadd hx hb d_La_law_139 ?_
        obtain ⟨g53, hF⟩ := hF
        refine va_sld hx hb hV hbl hbA hS g53 d_La_law_140 ?_
        refine lv_aload_n hx hb d_La_law_141 rfl (lv_at hl 0 rfl) ?_
        refine lv_iload hx hb d_La_law_142 (lv_at hl 5 rfl) ?_
        refine lv_iconst hx hb d_La_law_144 ki_3 ?_
        refine lv_iadd hx hb d_La_law_145 ?_
        obtain ⟨g54, hF⟩ := hF
        refine va_sld hx hb hV hbl hbA hS g54 d_La_law_146 ?_
        refine rs_ci1 (rs_runSW (n := 4) C hX hH hT hS hl (J_La_peer l hfl h_v1 hF) tw_526 tw_0 ⟨by decide, by decide⟩ (by decide +kernel) tw_524 tw_525 rfl ⟨⟨rfl, rfl⟩, ⟨by decide, by decide⟩, (by show _ ≤ 601024; omega), (by show _ ≤ 7293034; omega)⟩ (Nat.le_of_ble_eq_true rfl) rfl d_La_law_147) hS (fun x56 σ55 H locs hH hT hS hF => ?_)
        refine lv_istore hx hb d_La_law_150 hl (by decide) (lv' := [(6, .int x56), (0, .ref b), (1, .ref (Bm + v1)), (2, .ref (Bm + v2)), (3, .ref (Bm + v3)), (4, .ref (Bm + v4)), (5, .int x5)]) rfl (fun ls hl => ?_)
        refine lv_aload_n hx hb d_La_law_152 rfl (lv_at hl 3 rfl) ?_
        refine lv_aload_n hx hb d_La_law_153 rfl (lv_at hl 1 rfl) ?_
        refine lv_iload hx hb d_La_law_154 (lv_at hl 6 rfl) ?_
        refine lv_iconst hx hb d_La_law_156 ki_1 ?_
        refine lv_iadd hx hb d_La_law_157 ?_
        obtain ⟨g57, hF⟩ := hF
        refine va_sld hx hb hV hbl hbA hS g57 d_La_law_158 ?_
        refine lv_aload_n hx hb d_La_law_159 rfl (lv_at hl 1 rfl) ?_
        refine lv_iload hx hb d_La_law_160 (lv_at hl 6 rfl) ?_
        refine lv_iconst hx hb d_La_law_162 ki_2 ?_
        refine lv_iadd hx hb d_La_law_163 ?_
        obtain ⟨g58, hF⟩ := hF
        refine va_sld hx hb hV hbl hbA hS g58 d_La_law_164 ?_
        refine lv_aload_n hx hb d_La_law_165 rfl (lv_at hl 1 rfl) ?_
        refine lv_iload hx hb d_La_law_166 (lv_at hl 6 rfl) ?_
        refine lv_iconst hx hb d_La_law_168 ki_3 ?_
        refine lv_iadd hx hb d_La_law_169 ?_
        obtain ⟨g59, hF⟩ := hF
        refine va_sld hx hb hV hbl hbA hS g59 d_La_law_170 ?_
        refine rs_cv (rs_runV C hH hT hl (J_Mo_peer l h_v2 hF) rc_Mo_peer tw_1027 tw_1028 tw_1029 h_v2 ⟨rfl, by decide, by decide⟩ rfl ⟨⟨rfl, rfl⟩, ⟨by decide, by decide⟩, (by show _ ≤ 601024; omega), (by show _ ≤ 7293034; omega)⟩ (Nat.le_of_ble_eq_true rfl) rfl d_La_law_171) hS (fun σ61 H locs hH hT hS hF => ?_)
        refine lv_aload_n hx hb d_La_law_174 rfl (lv_at hl 3 rfl) ?_
        refine rs_ci (rs_runV C hH hT hl (J_Mo_thrown l h_v2 hF) rc_Mo_thrown tw_1023 tw_1024 tw_1025 h_v2 ⟨rfl, by decide, by decide⟩ rfl ⟨⟨rfl, rfl⟩, ⟨by decide, by decide⟩, (by show _ ≤ 601024; omega), (by show _ ≤ 7293034; omega)⟩ (Nat.le_of_ble_eq_true rfl) rfl d_La_law_175) hS (fun x64 σ63 H locs hH hT hS hF => ?_)
        refine lv_iload hx hb d_La_law_178 (lv_at hl 0 rfl) ?_
        refine lv_icmp_eq hx hb d_La_law_180 (tgt := 185) rfl (fun hc => ?_) (fun hc => ?_)
        · replace hF := hF.1 hc
          refine lv_goto hx hb d_La_law_185 (tgt := 1199) rfl ?_
          obtain ⟨x65, ex65⟩ : ∃ z : Int32, z = x5 + (5 : Int32) := ⟨_, rfl⟩
          replace hF := hF x65 ex65
          refine lv_iinc hx hb d_La_law_1199 hl (k := 6) rfl (v := x65) (by rw [ki_5, ex65]) (by decide) (lv' := [(5, .int x65), (6, .int x56), (0, .ref b), (1, .ref (Bm + v1)), (2, .ref (Bm + v2)), (3, .ref (Bm + v3)), (4, .ref (Bm + v4))]) rfl (fun ls hl => ?_)
          refine lv_goto hx hb d_La_law_1202 (tgt := 28) rfl ?_
          exact hK28 v1 v2 v3 v4 x65 σ63 _ _ _ _ _ (by omega) (by omega) h_v1 h_v2 h_v3 h_v4 hH hT hS (lv_sub hl [2, 3, 4, 5, 6, 0] rfl) hF
        · replace hF := hF.2 hc
          refine lv_iconst hx hb d_La_law_183 ki_0 ?_
          exact hF.elim
      · replace hF := hF.2.2.1 hc
        refine lv_tableIn hx hb d_La_law_44 (by rw [hc]; decide) (by rw [hc]; decide) (off := 144) (by rw [hc]; rfl) (tgt := 188) rfl ?_
        refine lv_aload_n hx hb d_La_law_188 rfl (lv_at hl 1 rfl) ?_
        refine lv_aload_n hx hb d_La_law_189 rfl (lv_at hl 0 rfl) ?_
        refine lv_iload hx hb d_La_law_190 (lv_at hl 5 rfl) ?_
        refine lv_iconst hx hb d_La_law_192 ki_1 ?_
        refine lv_iadd hx hb d_La_law_193 ?_
        obtain ⟨g52, hF⟩ := hF
        refine va_sld hx hb hV hbl hbA hS g52 d_La_law_194 ?_
        refine lv_aload_n hx hb d_La_law_195 rfl (lv_at hl 0 rfl) ?_
        refine lv_iload hx hb d_La_law_196 (lv_at hl 5 rfl) ?_
        refine lv_iconst hx hb d_La_law_198 ki_2 ?_
        refine lv_iadd hx hb d_La_law_199 ?_
        obtain ⟨g53, hF⟩ := hF
        refine va_sld hx hb hV hbl hbA hS g53 d_La_law_200 ?_
        refine lv_aload_n hx hb d_La_law_201 rfl (lv_at hl 0 rfl) ?_
        refine lv_iload hx hb d_La_law_202 (lv_at hl 5 rfl) ?_
        refine lv_iconst hx hb d_La_law_204 ki_3 ?_
        refine lv_iadd hx hb d_La_law_205 ?_
        obtain ⟨g54, hF⟩ := hF
        refine va_sld hx hb hV hbl hbA hS g54 d_La_law_206 ?_
        refine lv_aload_n hx hb d_La_law_207 rfl (lv_at hl 0 rfl) ?_
        refine lv_iload hx hb d_La_law_208 (lv_at hl 5 rfl) ?_
        refine lv_iconst hx hb d_La_law_210 ki_4 ?_
        refine lv_iadd hx hb d_La_law_211 ?_
        obtain ⟨g55, hF⟩ := hF
        refine va_sld hx hb hV hbl hbA hS g55 d_La_law_212 ?_
        refine rs_ci1 (rs_runSW (n := 5) C hX hH hT hS hl (J_La_rule l hfl h_v1 hF) tw_620 tw_0 ⟨by decide, by decide⟩ (by decide +kernel) tw_618 tw_619 rfl ⟨⟨rfl, rfl⟩, ⟨by decide, by decide⟩, (by show _ ≤ 601024; omega), (by show _ ≤ 7293034; omega)⟩ (Nat.le_of_ble_eq_true rfl) rfl d_La_law_213) hS (fun x57 σ56 H locs hH hT hS hF => ?_)
        refine lv_istore hx hb d_La_law_216 hl (by decide) (lv' := [(6, .int x57), (0, .ref b), (1, .ref (Bm + v1)), (2, .ref (Bm + v2)), (3, .ref (Bm + v3)), (4, .ref (Bm + v4)), (5, .int x5)]) rfl (fun ls hl => ?_)
        refine lv_aload_n hx hb d_La_law_218 rfl (lv_at hl 3 rfl) ?_
        refine lv_aload_n hx hb d_La_law_219 rfl (lv_at hl 1 rfl) ?_
        refine lv_iload hx hb d_La_law_220 (lv_at hl 6 rfl) ?_
        refine lv_iconst hx hb d_La_law_222 ki_1 ?_
        refine lv_iadd hx hb d_La_law_223 ?_
        obtain ⟨g58, hF⟩ := hF
        refine va_sld hx hb hV hbl hbA hS g58 d_La_law_224 ?_
        refine lv_aload_n hx hb d_La_law_225 rfl (lv_at hl 1 rfl) ?_
        refine lv_iload hx hb d_La_law_226 (lv_at hl 6 rfl) ?_
        refine lv_iconst hx hb d_La_law_228 ki_2 ?_
        refine lv_iadd hx hb d_La_law_229 ?_
        obtain ⟨g59, hF⟩ := hF
        refine va_sld hx hb hV hbl hbA hS g59 d_La_law_230 ?_
        refine lv_aload_n hx hb d_La_law_231 rfl (lv_at hl 1 rfl) ?_
        refine lv_iload hx hb d_La_law_232 (lv_at hl 6 rfl) ?_
        refine lv_iconst hx hb d_La_law_234 ki_3 ?_
        refine lv_iadd hx hb d_La_law_235 ?_
        obtain ⟨g60, hF⟩ := hF
        refine va_sld hx hb hV hbl hbA hS g60 d_La_law_236 ?_
        refine lv_aload_n hx hb d_La_law_237 rfl (lv_at hl 1 rfl) ?_
        refine lv_iload hx hb d_La_law_238 (lv_at hl 6 rfl) ?_
        refine lv_iconst hx hb d_La_law_240 ki_4 ?_
        refine lv_iadd hx hb d_La_law_241 ?_
        obtain ⟨g61, hF⟩ := hF
        refine va_sld hx hb hV hbl hbA hS g61 d_La_law_242 ?_
        refine rs_cv (rs_runV C hH hT hl (J_Mo_rule l h_v2 hF) rc_Mo_rule tw_1132 tw_1133 tw_1134 h_v2 ⟨rfl, by decide, by decide⟩ rfl ⟨⟨rfl, rfl⟩, ⟨by decide, by decide⟩, (by show _ ≤ 601024; omega), (by show _ ≤ 7293034; omega)⟩ (Nat.le_of_ble_eq_true rfl) rfl d_La_law_243) hS (fun σ63 H locs hH hT hS hF => ?_)
        refine lv_aload_n hx hb d_La_law_246 rfl (lv_at hl 3 rfl) ?_
        refine rs_ci (rs_runV C hH hT hl (J_Mo_thrown l h_v2 hF) rc_Mo_thrown tw_1023 tw_1024 tw_1025 h_v2 ⟨rfl, by decide, by decide⟩ rfl ⟨⟨rfl, rfl⟩, ⟨by decide, by decide⟩, (by show _ ≤ 601024; omega), (by show _ ≤ 7293034; omega)⟩ (Nat.le_of_ble_eq_true rfl) rfl d_La_law_247) hS (fun x66 σ65 H locs hH hT hS hF => ?_)
        refine lv_iload hx hb d_La_law_250 (lv_at hl 0 rfl) ?_
        refine lv_icmp_eq hx hb d_La_law_252 (tgt := 257) rfl (fun hc => ?_) (fun hc => ?_)
        · replace hF := hF.1 hc
          refine lv_goto hx hb d_La_law_257 (tgt := 1199) rfl ?_
          obtain ⟨x67, ex67⟩ : ∃ z : Int32, z = x5 + (5 : Int32) := ⟨_, rfl⟩
          replace hF := hF x67 ex67
          refine lv_iinc hx hb d_La_law_1199 hl (k := 6) rfl (v := x67) (by rw [ki_5, ex67]) (by decide) (lv' := [(5, .int x67), (6, .int x57), (0, .ref b), (1, .ref (Bm + v1)), (2, .ref (Bm + v2)), (3, .ref (Bm + v3)), (4, .ref (Bm + v4))]) rfl (fun ls hl => ?_)
          refine lv_goto hx hb d_La_law_1202 (tgt := 28) rfl ?_
          exact hK28 v1 v2 v3 v4 x67 σ65 _ _ _ _ _ (by omega) (by omega) h_v1 h_v2 h_v3 h_v4 hH hT hS (lv_sub hl [2, 3, 4, 5, 6, 0] rfl) hF
        · replace hF := hF.2 hc
          refine lv_iconst hx hb d_La_law_255 ki_0 ?_
          exact hF.elim
      · replace hF := hF.2.2.2.1 hc
        refine lv_tableIn hx hb d_La_law_44 (by rw [hc]; decide) (by rw [hc]; decide) (off := 216) (by rw [hc]; rfl) (tgt := 260) rfl ?_
        refine lv_aload_n hx hb d_La_law_260 rfl (lv_at hl 1 rfl) ?_
        refine lv_aload_n hx hb d_La_law_261 rfl (lv_at hl 0 rfl) ?_
        refine lv_iload hx hb d_La_law_262 (lv_at hl 5 rfl) ?_
        refine lv_iconst hx hb d_La_law_264 ki_1 ?_
        refine lv_iadd hx hb d_La_law_265 ?_
        obtain ⟨g52, hF⟩ := hF
        refine va_sld hx hb hV hbl hbA hS g52 d_La_law_266 ?_
        refine rs_ci1 (rs_runSW (n := 2) C hX hH hT hS hl (J_La_unrule l hfl h_v1 hF) tw_634 tw_0 ⟨by decide, by decide⟩ (by decide +kernel) tw_632 tw_633 rfl ⟨⟨rfl, rfl⟩, ⟨by decide, by decide⟩, (by show _ ≤ 601024; omega), (by show _ ≤ 7293034; omega)⟩ (Nat.le_of_ble_eq_true rfl) rfl d_La_law_267) hS (fun x54 σ53 H locs hH hT hS hF => ?_)
        refine lv_istore hx hb d_La_law_270 hl (by decide) (lv' := [(6, .int x54), (0, .ref b), (1, .ref (Bm + v1)), (2, .ref (Bm + v2)), (3, .ref (Bm + v3)), (4, .ref (Bm + v4)), (5, .int x5)]) rfl (fun ls hl => ?_)
        refine lv_aload_n hx hb d_La_law_272 rfl (lv_at hl 3 rfl) ?_
        refine lv_aload_n hx hb d_La_law_273 rfl (lv_at hl 1 rfl) ?_
        refine lv_iload hx hb d_La_law_274 (lv_at hl 6 rfl) ?_
        refine lv_iconst hx hb d_La_law_276 ki_1 ?_
        refine lv_iadd hx hb d_La_law_277 ?_
        obtain ⟨g55, hF⟩ := hF
        refine va_sld hx hb hV hbl hbA hS g55 d_La_law_278 ?_
        refine rs_cv (rs_runV C hH hT hl (J_Mo_unrule l h_v2 hF) rc_Mo_unrule tw_1139 tw_1140 tw_1141 h_v2 ⟨rfl, by decide, by decide⟩ rfl ⟨⟨rfl, rfl⟩, ⟨by decide, by decide⟩, (by show _ ≤ 601024; omega), (by show _ ≤ 7293034; omega)⟩ (Nat.le_of_ble_eq_true rfl) rfl d_La_law_279) hS (fun σ57 H locs hH hT hS hF => ?_)
        refine lv_aload_n hx hb d_La_law_282 rfl (lv_at hl 3 rfl) ?_
        refine rs_ci (rs_runV C hH hT hl (J_Mo_thrown l h_v2 hF) rc_Mo_thrown tw_1023 tw_1024 tw_1025 h_v2 ⟨rfl, by decide, by decide⟩ rfl ⟨⟨rfl, rfl⟩, ⟨by decide, by decide⟩, (by show _ ≤ 601024; omega), (by show _ ≤ 7293034; omega)⟩ (Nat.le_of_ble_eq_true rfl) rfl d_La_law_283) hS (fun x60 σ59 H locs hH hT hS hF => ?_)
        refine lv_iload hx hb d_La_law_286 (lv_at hl 0 rfl) ?_
        refine lv_icmp_eq hx hb d_La_law_288 (tgt := 293) rfl (fun hc => ?_) (fun hc => ?_)
        · replace hF := hF.1 hc
          refine lv_goto hx hb d_La_law_293 (tgt := 1199) rfl ?_
          obtain ⟨x61, ex61⟩ : ∃ z : Int32, z = x5 + (5 : Int32) := ⟨_, rfl⟩
          replace hF := hF x61 ex61
          refine lv_iinc hx hb d_La_law_1199 hl (k := 6) rfl (v := x61) (by rw [ki_5, ex61]) (by decide) (lv' := [(5, .int x61), (6, .int x54), (0, .ref b), (1, .ref (Bm + v1)), (2, .ref (Bm + v2)), (3, .ref (Bm + v3)), (4, .ref (Bm + v4))]) rfl (fun ls hl => ?_)
          refine lv_goto hx hb d_La_law_1202 (tgt := 28) rfl ?_
          exact hK28 v1 v2 v3 v4 x61 σ59 _ _ _ _ _ (by omega) (by omega) h_v1 h_v2 h_v3 h_v4 hH hT hS (lv_sub hl [2, 3, 4, 5, 6, 0] rfl) hF
        · replace hF := hF.2 hc
          refine lv_iconst hx hb d_La_law_291 ki_0 ?_
          exact hF.elim
      · replace hF := hF.2.2.2.2.1 hc
        refine lv_tableIn hx hb d_La_law_44 (by rw [hc]; decide) (by rw [hc]; decide) (off := 252) (by rw [hc]; rfl) (tgt := 296) rfl ?_
        refine lv_aload_n hx hb d_La_law_296 rfl (lv_at hl 1 rfl) ?_
        refine lv_aload_n hx hb d_La_law_297 rfl (lv_at hl 0 rfl) ?_
        refine lv_iload hx hb d_La_law_298 (lv_at hl 5 rfl) ?_
        refine lv_iconst hx hb d_La_law_300 ki_1 ?_
        refine lv_iadd hx hb d_La_law_301 ?_
        obtain ⟨g52, hF⟩ := hF
        refine va_sld hx hb hV hbl hbA hS g52 d_La_law_302 ?_
        refine lv_aload_n hx hb d_La_law_303 rfl (lv_at hl 0 rfl) ?_
        refine lv_iload hx hb d_La_law_304 (lv_at hl 5 rfl) ?_
        refine lv_iconst hx hb d_La_law_306 ki_2 ?_
        refine lv_iadd hx hb d_La_law_307 ?_
        obtain ⟨g53, hF⟩ := hF
        refine va_sld hx hb hV hbl hbA hS g53 d_La_law_308 ?_
        refine lv_aload_n hx hb d_La_law_309 rfl (lv_at hl 0 rfl) ?_
        refine lv_iload hx hb d_La_law_310 (lv_at hl 5 rfl) ?_
        refine lv_iconst hx hb d_La_law_312 ki_3 ?_
        refine lv_iadd hx hb d_La_law_313 ?_
        obtain ⟨g54, hF⟩ := hF
        refine va_sld hx hb hV hbl hbA hS g54 d_La_law_314 ?_
        refine lv_aload_n hx hb d_La_law_315 rfl (lv_at hl 0 rfl) ?_
        refine lv_iload hx hb d_La_law_316 (lv_at hl 5 rfl) ?_
        refine lv_iconst hx hb d_La_law_318 ki_4 ?_
        refine lv_iadd hx hb d_La_law_319 ?_
        obtain ⟨g55, hF⟩ := hF
        refine va_sld hx hb hV hbl hbA hS g55 d_La_law_320 ?_
        refine rs_ci1 (rs_runSW (n := 5) C hX hH hT hS hl (J_La_outbound l hfl h_v1 hF) tw_645 tw_0 ⟨by decide, by decide⟩ (by decide +kernel) tw_643 tw_644 rfl ⟨⟨rfl, rfl⟩, ⟨by decide, by decide⟩, (by show _ ≤ 601024; omega), (by show _ ≤ 7293034; omega)⟩ (Nat.le_of_ble_eq_true rfl) rfl d_La_law_321) hS (fun x57 σ56 H locs hH hT hS hF => ?_)
        refine lv_istore hx hb d_La_law_324 hl (by decide) (lv' := [(6, .int x57), (0, .ref b), (1, .ref (Bm + v1)), (2, .ref (Bm + v2)), (3, .ref (Bm + v3)), (4, .ref (Bm + v4)), (5, .int x5)]) rfl (fun ls hl => ?_)
        refine lv_aload_n hx hb d_La_law_326 rfl (lv_at hl 3 rfl) ?_
        refine lv_aload_n hx hb d_La_law_327 rfl (lv_at hl 1 rfl) ?_
        refine lv_iload hx hb d_La_law_328 (lv_at hl 6 rfl) ?_
        refine lv_iconst hx hb d_La_law_330 ki_1 ?_
        refine lv_iadd hx hb d_La_law_331 ?_
        obtain ⟨g58, hF⟩ := hF
        refine va_sld hx hb hV hbl hbA hS g58 d_La_law_332 ?_
        refine lv_aload_n hx hb d_La_law_333 rfl (lv_at hl 1 rfl) ?_
        refine lv_iload hx hb d_La_law_334 (lv_at hl 6 rfl) ?_
        refine lv_iconst hx hb d_La_law_336 ki_2 ?_
        refine lv_iadd hx hb d_La_law_337 ?_
        obtain ⟨g59, hF⟩ := hF
        refine va_sld hx hb hV hbl hbA hS g59 d_La_law_338 ?_
        refine lv_aload_n hx hb d_La_law_339 rfl (lv_at hl 1 rfl) ?_
        refine lv_iload hx hb d_La_law_340 (lv_at hl 6 rfl) ?_
        refine lv_iconst hx hb d_La_law_342 ki_3 ?_
        refine lv_iadd hx hb d_La_law_343 ?_
        obtain ⟨g60, hF⟩ := hF
        refine va_sld hx hb hV hbl hbA hS g60 d_La_law_344 ?_
        refine lv_aload_n hx hb d_La_law_345 rfl (lv_at hl 1 rfl) ?_
        refine lv_iload hx hb d_La_law_346 (lv_at hl 6 rfl) ?_
        refine lv_iconst hx hb d_La_law_348 ki_4 ?_
        refine lv_iadd hx hb d_La_law_349 ?_
        obtain ⟨g61, hF⟩ := hF
        refine va_sld hx hb hV hbl hbA hS g61 d_La_law_350 ?_
        refine rs_cv (rs_runV C hH hT hl (J_Mo_outbound l h_v2 hF) rc_Mo_outbound tw_1143 tw_1144 tw_1145 h_v2 ⟨rfl, by decide, by decide⟩ rfl ⟨⟨rfl, rfl⟩, ⟨by decide, by decide⟩, (by show _ ≤ 601024; omega), (by show _ ≤ 7293034; omega)⟩ (Nat.le_of_ble_eq_true rfl) rfl d_La_law_351) hS (fun σ63 H locs hH hT hS hF => ?_)
        refine lv_aload_n hx hb d_La_law_354 rfl (lv_at hl 3 rfl) ?_
        refine rs_ci (rs_runV C hH hT hl (J_Mo_thrown l h_v2 hF) rc_Mo_thrown tw_1023 tw_1024 tw_1025 h_v2 ⟨rfl, by decide, by decide⟩ rfl ⟨⟨rfl, rfl⟩, ⟨by decide, by decide⟩, (by show _ ≤ 601024; omega), (by show _ ≤ 7293034; omega)⟩ (Nat.le_of_ble_eq_true rfl) rfl d_La_law_355) hS (fun x66 σ65 H locs hH hT hS hF => ?_)
        refine lv_iload hx hb d_La_law_358 (lv_at hl 0 rfl) ?_
        refine lv_icmp_eq hx hb d_La_law_360 (tgt := 365) rfl (fun hc => ?_) (fun hc => ?_)
        · replace hF := hF.1 hc
          refine lv_goto hx hb d_La_law_365 (tgt := 1199) rfl ?_
          obtain ⟨x67, ex67⟩ : ∃ z : Int32, z = x5 + (5 : Int32) := ⟨_, rfl⟩
          replace hF := hF x67 ex67
          refine lv_iinc hx hb d_La_law_1199 hl (k := 6) rfl (v := x67) (by rw [ki_5, ex67]) (by decide) (lv' := [(5, .int x67), (6, .int x57), (0, .ref b), (1, .ref (Bm + v1)), (2, .ref (Bm + v2)), (3, .ref (Bm + v3)), (4, .ref (Bm + v4))]) rfl (fun ls hl => ?_)
          refine lv_goto hx hb d_La_law_1202 (tgt := 28) rfl ?_
          exact hK28 v1 v2 v3 v4 x67 σ65 _ _ _ _ _ (by omega) (by omega) h_v1 h_v2 h_v3 h_v4 hH hT hS (lv_sub hl [2, 3, 4, 5, 6, 0] rfl) hF
        · replace hF := hF.2 hc
          refine lv_iconst hx hb d_La_law_363 ki_0 ?_
          exact hF.elim
      · replace hF := hF.2.2.2.2.2.1 hc
        refine lv_tableIn hx hb d_La_law_44 (by rw [hc]; decide) (by rw [hc]; decide) (off := 324) (by rw [hc]; rfl) (tgt := 368) rfl ?_
        refine lv_aload_n hx hb d_La_law_368 rfl (lv_at hl 1 rfl) ?_
        refine lv_aload_n hx hb d_La_law_369 rfl (lv_at hl 0 rfl) ?_
        refine lv_iload hx hb d_La_law_370 (lv_at hl 5 rfl) ?_
        refine lv_iconst hx hb d_La_law_372 ki_1 ?_
        refine lv_iadd hx hb d_La_law_373 ?_
        obtain ⟨g52, hF⟩ := hF
        refine va_sld hx hb hV hbl hbA hS g52 d_La_law_374 ?_
        refine lv_aload_n hx hb d_La_law_375 rfl (lv_at hl 0 rfl) ?_
        refine lv_iload hx hb d_La_law_376 (lv_at hl 5 rfl) ?_
        refine lv_iconst hx hb d_La_law_378 ki_2 ?_
        refine lv_iadd hx hb d_La_law_379 ?_
        obtain ⟨g53, hF⟩ := hF
        refine va_sld hx hb hV hbl hbA hS g53 d_La_law_380 ?_
        refine lv_aload_n hx hb d_La_law_381 rfl (lv_at hl 3 rfl) ?_
        refine rs_ci1 (rs_runSW (n := 4) C hX hH hT hS hl (J_La_originate l hfl h_v1 h_v3 hF) tw_652 tw_0 ⟨by decide, by decide⟩ (by decide +kernel) tw_650 tw_651 rfl ⟨⟨rfl, rfl⟩, ⟨by decide, by decide⟩, (by show _ ≤ 601024; omega), (by show _ ≤ 7293034; omega)⟩ (Nat.le_of_ble_eq_true rfl) rfl d_La_law_382) hS (fun x55 σ54 H locs hH hT hS hF => ?_)
        refine lv_istore hx hb d_La_law_385 hl (by decide) (lv' := [(6, .int x55), (0, .ref b), (1, .ref (Bm + v1)), (2, .ref (Bm + v2)), (3, .ref (Bm + v3)), (4, .ref (Bm + v4)), (5, .int x5)]) rfl (fun ls hl => ?_)
        refine lv_aload_n hx hb d_La_law_387 rfl (lv_at hl 3 rfl) ?_
        refine lv_aload_n hx hb d_La_law_388 rfl (lv_at hl 1 rfl) ?_
        refine lv_iload hx hb d_La_law_389 (lv_at hl 6 rfl) ?_
        refine lv_iconst hx hb d_La_law_391 ki_1 ?_
        refine lv_iadd hx hb d_La_law_392 ?_
        obtain ⟨g56, hF⟩ := hF
        refine va_sld hx hb hV hbl hbA hS g56 d_La_law_393 ?_
        refine lv_aload_n hx hb d_La_law_394 rfl (lv_at hl 1 rfl) ?_
        refine lv_iload hx hb d_La_law_395 (lv_at hl 6 rfl) ?_
        refine lv_iconst hx hb d_La_law_397 ki_2 ?_
        refine lv_iadd hx hb d_La_law_398 ?_
        obtain ⟨g57, hF⟩ := hF
        refine va_sld hx hb hV hbl hbA hS g57 d_La_law_399 ?_
        refine rs_ci (rs_runV C hH hT hl (J_Mo_originate l h_v2 hF) rc_Mo_originate tw_1147 tw_1148 tw_1149 h_v2 ⟨rfl, by decide, by decide⟩ rfl ⟨⟨rfl, rfl⟩, ⟨by decide, by decide⟩, (by show _ ≤ 601024; omega), (by show _ ≤ 7293034; omega)⟩ (Nat.le_of_ble_eq_true rfl) rfl d_La_law_400) hS (fun x60 σ59 H locs hH hT hS hF => ?_)
        refine lv_istore hx hb d_La_law_403 hl (by decide) (lv' := [(7, .int x60), (6, .int x55), (0, .ref b), (1, .ref (Bm + v1)), (2, .ref (Bm + v2)), (3, .ref (Bm + v3)), (4, .ref (Bm + v4)), (5, .int x5)]) rfl (fun ls hl => ?_)
        refine lv_aload_n hx hb d_La_law_405 rfl (lv_at hl 4 rfl) ?_
        refine rs_ci (rs_runV C hH hT hl (J_Mo_thrown l h_v2 hF) rc_Mo_thrown tw_1023 tw_1024 tw_1025 h_v2 ⟨rfl, by decide, by decide⟩ rfl ⟨⟨rfl, rfl⟩, ⟨by decide, by decide⟩, (by show _ ≤ 601024; omega), (by show _ ≤ 7293034; omega)⟩ (Nat.le_of_ble_eq_true rfl) rfl d_La_law_406) hS (fun x63 σ62 H locs hH hT hS hF => ?_)
        refine lv_iload hx hb d_La_law_409 (lv_at hl 1 rfl) ?_
        refine lv_icmp_eq hx hb d_La_law_411 (tgt := 416) rfl (fun hc => ?_) (fun hc => ?_)
        · replace hF := hF.1 hc
          refine lv_iload hx hb d_La_law_416 (lv_at hl 1 rfl) ?_
          refine lv_if_ne hx hb d_La_law_418 (tgt := 440) rfl (fun hc => ?_) (fun hc => ?_)
          · replace hF := hF.1 hc
            refine lv_goto hx hb d_La_law_440 (tgt := 1199) rfl ?_
            obtain ⟨x64, ex64⟩ : ∃ z : Int32, z = x5 + (5 : Int32) := ⟨_, rfl⟩
            replace hF := hF x64 ex64
            refine lv_iinc hx hb d_La_law_1199 hl (k := 7) rfl (v := x64) (by rw [ki_5, ex64]) (by decide) (lv' := [(5, .int x64), (7, .int x60), (6, .int x55), (0, .ref b), (1, .ref (Bm + v1)), (2, .ref (Bm + v2)), (3, .ref (Bm + v3)), (4, .ref (Bm + v4))]) rfl (fun ls hl => ?_)
            refine lv_goto hx hb d_La_law_1202 (tgt := 28) rfl ?_
            exact hK28 v1 v2 v3 v4 x64 σ62 _ _ _ _ _ (by omega) (by omega) h_v1 h_v2 h_v3 h_v4 hH hT hS (lv_sub hl [3, 4, 5, 6, 7, 0] rfl) hF
          · replace hF := hF.2 hc
            refine lv_aload_n hx hb d_La_law_421 rfl (lv_at hl 5 rfl) ?_
            refine lv_iconst hx hb d_La_law_422 ki_0 ?_
            obtain ⟨g64, hF⟩ := hF
            refine rs_lald C hH h_v3 g64 d_La_law_423 ?_
            refine lv_iload hx hb d_La_law_424 (lv_at hl 0 rfl) ?_
            refine lv_if_eq hx hb d_La_law_426 (tgt := 433) rfl (fun hc => ?_) (fun hc => ?_)
            · replace hF := hF.1 hc
              refine lv_lconst hx hb d_La_law_433 (v := (0 : Int64)) rfl ?_
              exact JB_La_law_434 C hfl hX hBm hV hbl hargs hK28 v1 v2 v3 v4 x5 (rs_L σ62 v3 (0 : Int32).toNatClampNeg) (0 : Int64) σ62 _ _ _ _ _ (by omega) (by omega) h_v1 h_v2 h_v3 h_v4 hH hT hS (lv_sub hl [2, 3, 4, 5, 6, 7] rfl) hF
            · replace hF := hF.2 hc
              refine lv_lconst hx hb d_La_law_429 (v := (1 : Int64)) rfl ?_
              refine lv_goto hx hb d_La_law_430 (tgt := 434) rfl ?_
              exact JB_La_law_434 C hfl hX hBm hV hbl hargs hK28 v1 v2 v3 v4 x5 (rs_L σ62 v3 (0 : Int32).toNatClampNeg) (1 : Int64) σ62 _ _ _ _ _ (by omega) (by omega) h_v1 h_v2 h_v3 h_v4 hH hT hS (lv_sub hl [2, 3, 4, 5, 6, 7] rfl) hF
        · replace hF := hF.2 hc
          refine lv_iconst hx hb d_La_law_414 ki_0 ?_
          exact hF.elim
      · replace hF := hF.2.2.2.2.2.2.1 hc
        refine lv_tableIn hx hb d_La_law_44 (by rw [hc]; decide) (by rw [hc]; decide) (off := 399) (by rw [hc]; rfl) (tgt := 443) rfl ?_
        refine lv_aload_n hx hb d_La_law_443 rfl (lv_at hl 1 rfl) ?_
        refine lv_aload_n hx hb d_La_law_444 rfl (lv_at hl 0 rfl) ?_
        refine lv_iload hx hb d_La_law_445 (lv_at hl 5 rfl) ?_
        refine lv_iconst hx hb d_La_law_447 ki_1 ?_
        refine lv_iadd hx hb d_La_law_448 ?_
        obtain ⟨g52, hF⟩ := hF
        refine va_sld hx hb hV hbl hbA hS g52 d_La_law_449 ?_
        refine lv_aload_n hx hb d_La_law_450 rfl (lv_at hl 0 rfl) ?_
        refine lv_iload hx hb d_La_law_451 (lv_at hl 5 rfl) ?_
        refine lv_iconst hx hb d_La_law_453 ki_2 ?_
        refine lv_iadd hx hb d_La_law_454 ?_
        obtain ⟨g53, hF⟩ := hF
        refine va_sld hx hb hV hbl hbA hS g53 d_La_law_455 ?_
        refine lv_aload_n hx hb d_La_law_456 rfl (lv_at hl 3 rfl) ?_
        refine rs_ci1 (rs_runSW (n := 4) C hX hH hT hS hl (J_La_retract l hfl h_v1 h_v3 hF) tw_667 tw_0 ⟨by decide, by decide⟩ (by decide +kernel) tw_665 tw_666 rfl ⟨⟨rfl, rfl⟩, ⟨by decide, by decide⟩, (by show _ ≤ 601024; omega), (by show _ ≤ 7293034; omega)⟩ (Nat.le_of_ble_eq_true rfl) rfl d_La_law_457) hS (fun x55 σ54 H locs hH hT hS hF => ?_)
        refine lv_istore hx hb d_La_law_460 hl (by decide) (lv' := [(6, .int x55), (0, .ref b), (1, .ref (Bm + v1)), (2, .ref (Bm + v2)), (3, .ref (Bm + v3)), (4, .ref (Bm + v4)), (5, .int x5)]) rfl (fun ls hl => ?_)
        refine lv_aload_n hx hb d_La_law_462 rfl (lv_at hl 3 rfl) ?_
        refine lv_aload_n hx hb d_La_law_463 rfl (lv_at hl 1 rfl) ?_
        refine lv_iload hx hb d_La_law_464 (lv_at hl 6 rfl) ?_
        refine lv_iconst hx hb d_La_law_466 ki_1 ?_
        refine lv_iadd hx hb d_La_law_467 ?_
        obtain ⟨g56, hF⟩ := hF
        refine va_sld hx hb hV hbl hbA hS g56 d_La_law_468 ?_
        refine lv_aload_n hx hb d_La_law_469 rfl (lv_at hl 1 rfl) ?_
        refine lv_iload hx hb d_La_law_470 (lv_at hl 6 rfl) ?_
        refine lv_iconst hx hb d_La_law_472 ki_2 ?_
        refine lv_iadd hx hb d_La_law_473 ?_
        obtain ⟨g57, hF⟩ := hF
        refine va_sld hx hb hV hbl hbA hS g57 d_La_law_474 ?_
        refine rs_ci (rs_runV C hH hT hl (J_Mo_retract l h_v2 hF) rc_Mo_retract tw_1159 tw_1160 tw_1161 h_v2 ⟨rfl, by decide, by decide⟩ rfl ⟨⟨rfl, rfl⟩, ⟨by decide, by decide⟩, (by show _ ≤ 601024; omega), (by show _ ≤ 7293034; omega)⟩ (Nat.le_of_ble_eq_true rfl) rfl d_La_law_475) hS (fun x60 σ59 H locs hH hT hS hF => ?_)
        refine lv_istore hx hb d_La_law_478 hl (by decide) (lv' := [(7, .int x60), (6, .int x55), (0, .ref b), (1, .ref (Bm + v1)), (2, .ref (Bm + v2)), (3, .ref (Bm + v3)), (4, .ref (Bm + v4)), (5, .int x5)]) rfl (fun ls hl => ?_)
        refine lv_aload_n hx hb d_La_law_480 rfl (lv_at hl 4 rfl) ?_
        refine rs_ci (rs_runV C hH hT hl (J_Mo_thrown l h_v2 hF) rc_Mo_thrown tw_1023 tw_1024 tw_1025 h_v2 ⟨rfl, by decide, by decide⟩ rfl ⟨⟨rfl, rfl⟩, ⟨by decide, by decide⟩, (by show _ ≤ 601024; omega), (by show _ ≤ 7293034; omega)⟩ (Nat.le_of_ble_eq_true rfl) rfl d_La_law_481) hS (fun x63 σ62 H locs hH hT hS hF => ?_)
        refine lv_iload hx hb d_La_law_484 (lv_at hl 1 rfl) ?_
        refine lv_icmp_eq hx hb d_La_law_486 (tgt := 491) rfl (fun hc => ?_) (fun hc => ?_)
        · replace hF := hF.1 hc
          refine lv_iload hx hb d_La_law_491 (lv_at hl 1 rfl) ?_
          refine lv_if_ne hx hb d_La_law_493 (tgt := 515) rfl (fun hc => ?_) (fun hc => ?_)
          · replace hF := hF.1 hc
            refine lv_goto hx hb d_La_law_515 (tgt := 1199) rfl ?_
            obtain ⟨x64, ex64⟩ : ∃ z : Int32, z = x5 + (5 : Int32) := ⟨_, rfl⟩
            replace hF := hF x64 ex64
            refine lv_iinc hx hb d_La_law_1199 hl (k := 7) rfl (v := x64) (by rw [ki_5, ex64]) (by decide) (lv' := [(5, .int x64), (7, .int x60), (6, .int x55), (0, .ref b), (1, .ref (Bm + v1)), (2, .ref (Bm + v2)), (3, .ref (Bm + v3)), (4, .ref (Bm + v4))]) rfl (fun ls hl => ?_)
            refine lv_goto hx hb d_La_law_1202 (tgt := 28) rfl ?_
            exact hK28 v1 v2 v3 v4 x64 σ62 _ _ _ _ _ (by omega) (by omega) h_v1 h_v2 h_v3 h_v4 hH hT hS (lv_sub hl [3, 4, 5, 6, 7, 0] rfl) hF
          · replace hF := hF.2 hc
            refine lv_aload_n hx hb d_La_law_496 rfl (lv_at hl 5 rfl) ?_
            refine lv_iconst hx hb d_La_law_497 ki_0 ?_
            obtain ⟨g64, hF⟩ := hF
            refine rs_lald C hH h_v3 g64 d_La_law_498 ?_
            refine lv_iload hx hb d_La_law_499 (lv_at hl 0 rfl) ?_
            refine lv_if_eq hx hb d_La_law_501 (tgt := 508) rfl (fun hc => ?_) (fun hc => ?_)
            · replace hF := hF.1 hc
              refine lv_lconst hx hb d_La_law_508 (v := (0 : Int64)) rfl ?_
              exact JB_La_law_509 C hfl hX hBm hV hbl hargs hK28 v1 v2 v3 v4 x5 (rs_L σ62 v3 (0 : Int32).toNatClampNeg) (0 : Int64) σ62 _ _ _ _ _ (by omega) (by omega) h_v1 h_v2 h_v3 h_v4 hH hT hS (lv_sub hl [2, 3, 4, 5, 6, 7] rfl) hF
            · replace hF := hF.2 hc
              refine lv_lconst hx hb d_La_law_504 (v := (1 : Int64)) rfl ?_
              refine lv_goto hx hb d_La_law_505 (tgt := 509) rfl ?_
              exact JB_La_law_509 C hfl hX hBm hV hbl hargs hK28 v1 v2 v3 v4 x5 (rs_L σ62 v3 (0 : Int32).toNatClampNeg) (1 : Int64) σ62 _ _ _ _ _ (by omega) (by omega) h_v1 h_v2 h_v3 h_v4 hH hT hS (lv_sub hl [2, 3, 4, 5, 6, 7] rfl) hF
        · replace hF := hF.2 hc
          refine lv_iconst hx hb d_La_law_489 ki_0 ?_
          exact hF.elim
      · replace hF := hF.2.2.2.2.2.2.2.1 hc
        refine lv_tableIn hx hb d_La_law_44 (by rw [hc]; decide) (by rw [hc]; decide) (off := 474) (by rw [hc]; rfl) (tgt := 518) rfl ?_
        refine lv_aload_n hx hb d_La_law_518 rfl (lv_at hl 1 rfl) ?_
        refine lv_aload_n hx hb d_La_law_519 rfl (lv_at hl 0 rfl) ?_
        refine lv_iload hx hb d_La_law_520 (lv_at hl 5 rfl) ?_
        refine lv_iconst hx hb d_La_law_522 ki_1 ?_
        refine lv_iadd hx hb d_La_law_523 ?_
        obtain ⟨g52, hF⟩ := hF
        refine va_sld hx hb hV hbl hbA hS g52 d_La_law_524 ?_
        refine lv_aload_n hx hb d_La_law_525 rfl (lv_at hl 3 rfl) ?_
        refine rs_ci1 (rs_runSW (n := 3) C hX hH hT hS hl (J_La_start l hfl h_v1 h_v3 hF) tw_675 tw_0 ⟨by decide, by decide⟩ (by decide +kernel) tw_673 tw_674 rfl ⟨⟨rfl, rfl⟩, ⟨by decide, by decide⟩, (by show _ ≤ 601024; omega), (by show _ ≤ 7293034; omega)⟩ (Nat.le_of_ble_eq_true rfl) rfl d_La_law_526) hS (fun x54 σ53 H locs hH hT hS hF => ?_)
        refine lv_istore hx hb d_La_law_529 hl (by decide) (lv' := [(6, .int x54), (0, .ref b), (1, .ref (Bm + v1)), (2, .ref (Bm + v2)), (3, .ref (Bm + v3)), (4, .ref (Bm + v4)), (5, .int x5)]) rfl (fun ls hl => ?_)
        refine lv_aload_n hx hb d_La_law_531 rfl (lv_at hl 3 rfl) ?_
        refine lv_aload_n hx hb d_La_law_532 rfl (lv_at hl 1 rfl) ?_
        refine lv_iload hx hb d_La_law_533 (lv_at hl 6 rfl) ?_
        refine lv_iconst hx hb d_La_law_535 ki_1 ?_
        refine lv_iadd hx hb d_La_law_536 ?_
        obtain ⟨g55, hF⟩ := hF
        refine va_sld hx hb hV hbl hbA hS g55 d_La_law_537 ?_
        refine rs_ci (rs_runV C hH hT hl (J_Mo_start l h_v2 hF) rc_Mo_start tw_1163 tw_1164 tw_1165 h_v2 ⟨rfl, by decide, by decide⟩ rfl ⟨⟨rfl, rfl⟩, ⟨by decide, by decide⟩, (by show _ ≤ 601024; omega), (by show _ ≤ 7293034; omega)⟩ (Nat.le_of_ble_eq_true rfl) rfl d_La_law_538) hS (fun x58 σ57 H locs hH hT hS hF => ?_)
        refine lv_istore hx hb d_La_law_541 hl (by decide) (lv' := [(7, .int x58), (6, .int x54), (0, .ref b), (1, .ref (Bm + v1)), (2, .ref (Bm + v2)), (3, .ref (Bm + v3)), (4, .ref (Bm + v4)), (5, .int x5)]) rfl (fun ls hl => ?_)
        refine lv_aload_n hx hb d_La_law_543 rfl (lv_at hl 4 rfl) ?_
        refine rs_ci (rs_runV C hH hT hl (J_Mo_thrown l h_v2 hF) rc_Mo_thrown tw_1023 tw_1024 tw_1025 h_v2 ⟨rfl, by decide, by decide⟩ rfl ⟨⟨rfl, rfl⟩, ⟨by decide, by decide⟩, (by show _ ≤ 601024; omega), (by show _ ≤ 7293034; omega)⟩ (Nat.le_of_ble_eq_true rfl) rfl d_La_law_544) hS (fun x61 σ60 H locs hH hT hS hF => ?_)
        refine lv_iload hx hb d_La_law_547 (lv_at hl 1 rfl) ?_
        refine lv_icmp_eq hx hb d_La_law_549 (tgt := 554) rfl (fun hc => ?_) (fun hc => ?_)
        · replace hF := hF.1 hc
          refine lv_iload hx hb d_La_law_554 (lv_at hl 1 rfl) ?_
          refine lv_if_ne hx hb d_La_law_556 (tgt := 578) rfl (fun hc => ?_) (fun hc => ?_)
          · replace hF := hF.1 hc
            refine lv_goto hx hb d_La_law_578 (tgt := 1199) rfl ?_
            obtain ⟨x62, ex62⟩ : ∃ z : Int32, z = x5 + (5 : Int32) := ⟨_, rfl⟩
            replace hF := hF x62 ex62
            refine lv_iinc hx hb d_La_law_1199 hl (k := 7) rfl (v := x62) (by rw [ki_5, ex62]) (by decide) (lv' := [(5, .int x62), (7, .int x58), (6, .int x54), (0, .ref b), (1, .ref (Bm + v1)), (2, .ref (Bm + v2)), (3, .ref (Bm + v3)), (4, .ref (Bm + v4))]) rfl (fun ls hl => ?_)
            refine lv_goto hx hb d_La_law_1202 (tgt := 28) rfl ?_
            exact hK28 v1 v2 v3 v4 x62 σ60 _ _ _ _ _ (by omega) (by omega) h_v1 h_v2 h_v3 h_v4 hH hT hS (lv_sub hl [3, 4, 5, 6, 7, 0] rfl) hF
          · replace hF := hF.2 hc
            refine lv_aload_n hx hb d_La_law_559 rfl (lv_at hl 5 rfl) ?_
            refine lv_iconst hx hb d_La_law_560 ki_0 ?_
            obtain ⟨g62, hF⟩ := hF
            refine rs_lald C hH h_v3 g62 d_La_law_561 ?_
            refine lv_iload hx hb d_La_law_562 (lv_at hl 0 rfl) ?_
            refine lv_if_eq hx hb d_La_law_564 (tgt := 571) rfl (fun hc => ?_) (fun hc => ?_)
            · replace hF := hF.1 hc
              refine lv_lconst hx hb d_La_law_571 (v := (0 : Int64)) rfl ?_
              exact JB_La_law_572 C hfl hX hBm hV hbl hargs hK28 v1 v2 v3 v4 x5 (rs_L σ60 v3 (0 : Int32).toNatClampNeg) (0 : Int64) σ60 _ _ _ _ _ (by omega) (by omega) h_v1 h_v2 h_v3 h_v4 hH hT hS (lv_sub hl [2, 3, 4, 5, 6, 7] rfl) hF
            · replace hF := hF.2 hc
              refine lv_lconst hx hb d_La_law_567 (v := (1 : Int64)) rfl ?_
              refine lv_goto hx hb d_La_law_568 (tgt := 572) rfl ?_
              exact JB_La_law_572 C hfl hX hBm hV hbl hargs hK28 v1 v2 v3 v4 x5 (rs_L σ60 v3 (0 : Int32).toNatClampNeg) (1 : Int64) σ60 _ _ _ _ _ (by omega) (by omega) h_v1 h_v2 h_v3 h_v4 hH hT hS (lv_sub hl [2, 3, 4, 5, 6, 7] rfl) hF
        · replace hF := hF.2 hc
          refine lv_iconst hx hb d_La_law_552 ki_0 ?_
          exact hF.elim
      · replace hF := hF.2.2.2.2.2.2.2.2.1 hc
        refine lv_tableIn hx hb d_La_law_44 (by rw [hc]; decide) (by rw [hc]; decide) (off := 537) (by rw [hc]; rfl) (tgt := 581) rfl ?_
        refine lv_aload_n hx hb d_La_law_581 rfl (lv_at hl 1 rfl) ?_
        refine lv_aload_n hx hb d_La_law_582 rfl (lv_at hl 0 rfl) ?_
        refine lv_iload hx hb d_La_law_583 (lv_at hl 5 rfl) ?_
        refine lv_iconst hx hb d_La_law_585 ki_1 ?_
        refine lv_iadd hx hb d_La_law_586 ?_
        obtain ⟨g52, hF⟩ := hF
        refine va_sld hx hb hV hbl hbA hS g52 d_La_law_587 ?_
        refine lv_aload_n hx hb d_La_law_588 rfl (lv_at hl 3 rfl) ?_
        refine rs_ci1 (rs_runSW (n := 3) C hX hH hT hS hl (J_La_stop l hfl h_v1 h_v3 hF) tw_686 tw_0 ⟨by decide, by decide⟩ (by decide +kernel) tw_684 tw_685 rfl ⟨⟨rfl, rfl⟩, ⟨by decide, by decide⟩, (by show _ ≤ 601024; omega), (by show _ ≤ 7293034; omega)⟩ (Nat.le_of_ble_eq_true rfl) rfl d_La_law_589) hS (fun x54 σ53 H locs hH hT hS hF => ?_)
        refine lv_istore hx hb d_La_law_592 hl (by decide) (lv' := [(6, .int x54), (0, .ref b), (1, .ref (Bm + v1)), (2, .ref (Bm + v2)), (3, .ref (Bm + v3)), (4, .ref (Bm + v4)), (5, .int x5)]) rfl (fun ls hl => ?_)
        refine lv_aload_n hx hb d_La_law_594 rfl (lv_at hl 3 rfl) ?_
        refine lv_aload_n hx hb d_La_law_595 rfl (lv_at hl 1 rfl) ?_
        refine lv_iload hx hb d_La_law_596 (lv_at hl 6 rfl) ?_
        refine lv_iconst hx hb d_La_law_598 ki_1 ?_
        refine lv_iadd hx hb d_La_law_599 ?_
        obtain ⟨g55, hF⟩ := hF
        refine va_sld hx hb hV hbl hbA hS g55 d_La_law_600 ?_
        refine rs_ci (rs_runV C hH hT hl (J_Mo_stop l h_v2 hF) rc_Mo_stop tw_1167 tw_1168 tw_1169 h_v2 ⟨rfl, by decide, by decide⟩ rfl ⟨⟨rfl, rfl⟩, ⟨by decide, by decide⟩, (by show _ ≤ 601024; omega), (by show _ ≤ 7293034; omega)⟩ (Nat.le_of_ble_eq_true rfl) rfl d_La_law_601) hS (fun x58 σ57 H locs hH hT hS hF => ?_)
        refine lv_istore hx hb d_La_law_604 hl (by decide) (lv' := [(7, .int x58), (6, .int x54), (0, .ref b), (1, .ref (Bm + v1)), (2, .ref (Bm + v2)), (3, .ref (Bm + v3)), (4, .ref (Bm + v4)), (5, .int x5)]) rfl (fun ls hl => ?_)
        refine lv_aload_n hx hb d_La_law_606 rfl (lv_at hl 4 rfl) ?_
        refine rs_ci (rs_runV C hH hT hl (J_Mo_thrown l h_v2 hF) rc_Mo_thrown tw_1023 tw_1024 tw_1025 h_v2 ⟨rfl, by decide, by decide⟩ rfl ⟨⟨rfl, rfl⟩, ⟨by decide, by decide⟩, (by show _ ≤ 601024; omega), (by show _ ≤ 7293034; omega)⟩ (Nat.le_of_ble_eq_true rfl) rfl d_La_law_607) hS (fun x61 σ60 H locs hH hT hS hF => ?_)
        refine lv_iload hx hb d_La_law_610 (lv_at hl 1 rfl) ?_
        refine lv_icmp_eq hx hb d_La_law_612 (tgt := 617) rfl (fun hc => ?_) (fun hc => ?_)
        · replace hF := hF.1 hc
          refine lv_iload hx hb d_La_law_617 (lv_at hl 1 rfl) ?_
          refine lv_if_ne hx hb d_La_law_619 (tgt := 641) rfl (fun hc => ?_) (fun hc => ?_)
          · replace hF := hF.1 hc
            refine lv_goto hx hb d_La_law_641 (tgt := 1199) rfl ?_
            obtain ⟨x62, ex62⟩ : ∃ z : Int32, z = x5 + (5 : Int32) := ⟨_, rfl⟩
            replace hF := hF x62 ex62
            refine lv_iinc hx hb d_La_law_1199 hl (k := 7) rfl (v := x62) (by rw [ki_5, ex62]) (by decide) (lv' := [(5, .int x62), (7, .int x58), (6, .int x54), (0, .ref b), (1, .ref (Bm + v1)), (2, .ref (Bm + v2)), (3, .ref (Bm + v3)), (4, .ref (Bm + v4))]) rfl (fun ls hl => ?_)
            refine lv_goto hx hb d_La_law_1202 (tgt := 28) rfl ?_
            exact hK28 v1 v2 v3 v4 x62 σ60 _ _ _ _ _ (by omega) (by omega) h_v1 h_v2 h_v3 h_v4 hH hT hS (lv_sub hl [3, 4, 5, 6, 7, 0] rfl) hF
          · replace hF := hF.2 hc
            refine lv_aload_n hx hb d_La_law_622 rfl (lv_at hl 5 rfl) ?_
            refine lv_iconst hx hb d_La_law_623 ki_0 ?_
            obtain ⟨g62, hF⟩ := hF
            refine rs_lald C hH h_v3 g62 d_La_law_624 ?_
            refine lv_iload hx hb d_La_law_625 (lv_at hl 0 rfl) ?_
            refine lv_if_eq hx hb d_La_law_627 (tgt := 634) rfl (fun hc => ?_) (fun hc => ?_)
            · replace hF := hF.1 hc
              refine lv_lconst hx hb d_La_law_634 (v := (0 : Int64)) rfl ?_
              exact JB_La_law_635 C hfl hX hBm hV hbl hargs hK28 v1 v2 v3 v4 x5 (rs_L σ60 v3 (0 : Int32).toNatClampNeg) (0 : Int64) σ60 _ _ _ _ _ (by omega) (by omega) h_v1 h_v2 h_v3 h_v4 hH hT hS (lv_sub hl [2, 3, 4, 5, 6, 7] rfl) hF
            · replace hF := hF.2 hc
              refine lv_lconst hx hb d_La_law_630 (v := (1 : Int64)) rfl ?_
              refine lv_goto hx hb d_La_law_631 (tgt := 635) rfl ?_
              exact JB_La_law_635 C hfl hX hBm hV hbl hargs hK28 v1 v2 v3 v4 x5 (rs_L σ60 v3 (0 : Int32).toNatClampNeg) (1 : Int64) σ60 _ _ _ _ _ (by omega) (by omega) h_v1 h_v2 h_v3 h_v4 hH hT hS (lv_sub hl [2, 3, 4, 5, 6, 7] rfl) hF
        · replace hF := hF.2 hc
          refine lv_iconst hx hb d_La_law_615 ki_0 ?_
          exact hF.elim
      · replace hF := hF.2.2.2.2.2.2.2.2.2.1 hc
        refine lv_tableIn hx hb d_La_law_44 (by rw [hc]; decide) (by rw [hc]; decide) (off := 600) (by rw [hc]; rfl) (tgt := 644) rfl ?_
        refine lv_aload_n hx hb d_La_law_644 rfl (lv_at hl 1 rfl) ?_
        refine lv_aload_n hx hb d_La_law_645 rfl (lv_at hl 0 rfl) ?_
        refine lv_iload hx hb d_La_law_646 (lv_at hl 5 rfl) ?_
        refine lv_iconst hx hb d_La_law_648 ki_1 ?_
        refine lv_iadd hx hb d_La_law_649 ?_
        obtain ⟨g52, hF⟩ := hF
        refine va_sld hx hb hV hbl hbA hS g52 d_La_law_650 ?_
        refine lv_aload_n hx hb d_La_law_651 rfl (lv_at hl 0 rfl) ?_
        refine lv_iload hx hb d_La_law_652 (lv_at hl 5 rfl) ?_
        refine lv_iconst hx hb d_La_law_654 ki_2 ?_
        refine lv_iadd hx hb d_La_law_655 ?_
        obtain ⟨g53, hF⟩ := hF
        refine va_sld hx hb hV hbl hbA hS g53 d_La_law_656 ?_
        refine lv_i2l hx hb d_La_law_657 rfl ?_
        refine lv_bipush hx hb d_La_law_658 kb_32 ?_
        refine lv_lshl hx hb d_La_law_660 rfl ?_
        refine lv_aload_n hx hb d_La_law_661 rfl (lv_at hl 0 rfl) ?_
        refine lv_iload hx hb d_La_law_662 (lv_at hl 5 rfl) ?_
        refine lv_iconst hx hb d_La_law_664 ki_3 ?_
        refine lv_iadd hx hb d_La_law_665 ?_
        obtain ⟨g54, hF⟩ := hF
        refine va_sld hx hb hV hbl hbA hS g54 d_La_law_666 ?_
        refine lv_i2l hx hb d_La_law_667 rfl ?_
        refine lv_ldc2 hx hb C.2.2.2.2.1 (C.2.2.2.2.2.1 _ tw_1292) d_La_law_668 ?_
        refine lv_land hx hb d_La_law_671 ?_
        refine lv_lor hx hb d_La_law_672 ?_
        refine lv_aload_n hx hb d_La_law_673 rfl (lv_at hl 0 rfl) ?_
        refine lv_iload hx hb d_La_law_674 (lv_at hl 5 rfl) ?_
        refine lv_iconst hx hb d_La_law_676 ki_4 ?_
        refine lv_iadd hx hb d_La_law_677 ?_
        obtain ⟨g55, hF⟩ := hF
        refine va_sld hx hb hV hbl hbA hS g55 d_La_law_678 ?_
        refine lv_aload_n hx hb d_La_law_679 rfl (lv_at hl 3 rfl) ?_
        refine rs_ci1 (rs_runSW (n := 5) C hX hH hT hS hl (J_La_feed l hfl h_v1 h_v3 hF) tw_694 tw_0 ⟨by decide, by decide⟩ (by decide +kernel) tw_692 tw_693 rfl ⟨⟨rfl, rfl⟩, ⟨by decide, by decide⟩, (by show _ ≤ 601024; omega), (by show _ ≤ 7293034; omega)⟩ (Nat.le_of_ble_eq_true rfl) rfl d_La_law_680) hS (fun x57 σ56 H locs hH hT hS hF => ?_)
        refine lv_istore hx hb d_La_law_683 hl (by decide) (lv' := [(6, .int x57), (0, .ref b), (1, .ref (Bm + v1)), (2, .ref (Bm + v2)), (3, .ref (Bm + v3)), (4, .ref (Bm + v4)), (5, .int x5)]) rfl (fun ls hl => ?_)
        refine lv_aload_n hx hb d_La_law_685 rfl (lv_at hl 3 rfl) ?_
        refine lv_aload_n hx hb d_La_law_686 rfl (lv_at hl 1 rfl) ?_
        refine lv_iload hx hb d_La_law_687 (lv_at hl 6 rfl) ?_
        refine lv_iconst hx hb d_La_law_689 ki_1 ?_
        refine lv_iadd hx hb d_La_law_690 ?_
        obtain ⟨g58, hF⟩ := hF
        refine va_sld hx hb hV hbl hbA hS g58 d_La_law_691 ?_
        refine lv_aload_n hx hb d_La_law_692 rfl (lv_at hl 1 rfl) ?_
        refine lv_iload hx hb d_La_law_693 (lv_at hl 6 rfl) ?_
        refine lv_iconst hx hb d_La_law_695 ki_2 ?_
        refine lv_iadd hx hb d_La_law_696 ?_
        obtain ⟨g59, hF⟩ := hF
        refine va_sld hx hb hV hbl hbA hS g59 d_La_law_697 ?_
        refine lv_i2l hx hb d_La_law_698 rfl ?_
        refine lv_bipush hx hb d_La_law_699 kb_32 ?_
        refine lv_lshl hx hb d_La_law_701 rfl ?_
        refine lv_aload_n hx hb d_La_law_702 rfl (lv_at hl 1 rfl) ?_
        refine lv_iload hx hb d_La_law_703 (lv_at hl 6 rfl) ?_
        refine lv_iconst hx hb d_La_law_705 ki_3 ?_
        refine lv_iadd hx hb d_La_law_706 ?_
        obtain ⟨g60, hF⟩ := hF
        refine va_sld hx hb hV hbl hbA hS g60 d_La_law_707 ?_
        refine lv_i2l hx hb d_La_law_708 rfl ?_
        refine lv_ldc2 hx hb C.2.2.2.2.1 (C.2.2.2.2.2.1 _ tw_1292) d_La_law_709 ?_
        refine lv_land hx hb d_La_law_712 ?_
        refine lv_lor hx hb d_La_law_713 ?_
        refine lv_aload_n hx hb d_La_law_714 rfl (lv_at hl 1 rfl) ?_
        refine lv_iload hx hb d_La_law_715 (lv_at hl 6 rfl) ?_
        refine lv_iconst hx hb d_La_law_717 ki_4 ?_
        refine lv_iadd hx hb d_La_law_718 ?_
        obtain ⟨g61, hF⟩ := hF
        refine va_sld hx hb hV hbl hbA hS g61 d_La_law_719 ?_
        refine rs_ci (rs_runV C hH hT hl (J_Mo_feed l h_v2 hF) rc_Mo_feed tw_1175 tw_1176 tw_1177 h_v2 ⟨rfl, by decide, by decide⟩ rfl ⟨⟨rfl, rfl⟩, ⟨by decide, by decide⟩, (by show _ ≤ 601024; omega), (by show _ ≤ 7293034; omega)⟩ (Nat.le_of_ble_eq_true rfl) rfl d_La_law_720) hS (fun x64 σ63 H locs hH hT hS hF => ?_)
        refine lv_istore hx hb d_La_law_723 hl (by decide) (lv' := [(7, .int x64), (6, .int x57), (0, .ref b), (1, .ref (Bm + v1)), (2, .ref (Bm + v2)), (3, .ref (Bm + v3)), (4, .ref (Bm + v4)), (5, .int x5)]) rfl (fun ls hl => ?_)
        refine lv_aload_n hx hb d_La_law_725 rfl (lv_at hl 4 rfl) ?_
        refine rs_ci (rs_runV C hH hT hl (J_Mo_thrown l h_v2 hF) rc_Mo_thrown tw_1023 tw_1024 tw_1025 h_v2 ⟨rfl, by decide, by decide⟩ rfl ⟨⟨rfl, rfl⟩, ⟨by decide, by decide⟩, (by show _ ≤ 601024; omega), (by show _ ≤ 7293034; omega)⟩ (Nat.le_of_ble_eq_true rfl) rfl d_La_law_726) hS (fun x67 σ66 H locs hH hT hS hF => ?_)
        refine lv_iload hx hb d_La_law_729 (lv_at hl 1 rfl) ?_
        refine lv_icmp_eq hx hb d_La_law_731 (tgt := 736) rfl (fun hc => ?_) (fun hc => ?_)
        · replace hF := hF.1 hc
          refine lv_iload hx hb d_La_law_736 (lv_at hl 1 rfl) ?_
          refine lv_if_ne hx hb d_La_law_738 (tgt := 760) rfl (fun hc => ?_) (fun hc => ?_)
          · replace hF := hF.1 hc
            refine lv_goto hx hb d_La_law_760 (tgt := 1199) rfl ?_
            obtain ⟨x68, ex68⟩ : ∃ z : Int32, z = x5 + (5 : Int32) := ⟨_, rfl⟩
            replace hF := hF x68 ex68
            refine lv_iinc hx hb d_La_law_1199 hl (k := 7) rfl (v := x68) (by rw [ki_5, ex68]) (by decide) (lv' := [(5, .int x68), (7, .int x64), (6, .int x57), (0, .ref b), (1, .ref (Bm + v1)), (2, .ref (Bm + v2)), (3, .ref (Bm + v3)), (4, .ref (Bm + v4))]) rfl (fun ls hl => ?_)
            refine lv_goto hx hb d_La_law_1202 (tgt := 28) rfl ?_
            exact hK28 v1 v2 v3 v4 x68 σ66 _ _ _ _ _ (by omega) (by omega) h_v1 h_v2 h_v3 h_v4 hH hT hS (lv_sub hl [3, 4, 5, 6, 7, 0] rfl) hF
          · replace hF := hF.2 hc
            refine lv_aload_n hx hb d_La_law_741 rfl (lv_at hl 5 rfl) ?_
            refine lv_iconst hx hb d_La_law_742 ki_0 ?_
            obtain ⟨g68, hF⟩ := hF
            refine rs_lald C hH h_v3 g68 d_La_law_743 ?_
            refine lv_iload hx hb d_La_law_744 (lv_at hl 0 rfl) ?_
            refine lv_if_eq hx hb d_La_law_746 (tgt := 753) rfl (fun hc => ?_) (fun hc => ?_)
            · replace hF := hF.1 hc
              refine lv_lconst hx hb d_La_law_753 (v := (0 : Int64)) rfl ?_
              exact JB_La_law_754 C hfl hX hBm hV hbl hargs hK28 v1 v2 v3 v4 x5 (rs_L σ66 v3 (0 : Int32).toNatClampNeg) (0 : Int64) σ66 _ _ _ _ _ (by omega) (by omega) h_v1 h_v2 h_v3 h_v4 hH hT hS (lv_sub hl [2, 3, 4, 5, 6, 7] rfl) hF
            · replace hF := hF.2 hc
              refine lv_lconst hx hb d_La_law_749 (v := (1 : Int64)) rfl ?_
              refine lv_goto hx hb d_La_law_750 (tgt := 754) rfl ?_
              exact JB_La_law_754 C hfl hX hBm hV hbl hargs hK28 v1 v2 v3 v4 x5 (rs_L σ66 v3 (0 : Int32).toNatClampNeg) (1 : Int64) σ66 _ _ _ _ _ (by omega) (by omega) h_v1 h_v2 h_v3 h_v4 hH hT hS (lv_sub hl [2, 3, 4, 5, 6, 7] rfl) hF
        · replace hF := hF.2 hc
          refine lv_iconst hx hb d_La_law_734 ki_0 ?_
          exact hF.elim
      · replace hF := hF.2.2.2.2.2.2.2.2.2.2.1 hc
        refine lv_tableIn hx hb d_La_law_44 (by rw [hc]; decide) (by rw [hc]; decide) (off := 719) (by rw [hc]; rfl) (tgt := 763) rfl ?_
        refine lv_aload_n hx hb d_La_law_763 rfl (lv_at hl 1 rfl) ?_
        refine lv_aload_n hx hb d_La_law_764 rfl (lv_at hl 0 rfl) ?_
        refine lv_iload hx hb d_La_law_765 (lv_at hl 5 rfl) ?_
        refine lv_iconst hx hb d_La_law_767 ki_1 ?_
        refine lv_iadd hx hb d_La_law_768 ?_
        obtain ⟨g52, hF⟩ := hF
        refine va_sld hx hb hV hbl hbA hS g52 d_La_law_769 ?_
        refine lv_aload_n hx hb d_La_law_770 rfl (lv_at hl 3 rfl) ?_
        refine rs_ci1 (rs_runSW (n := 3) C hX hH hT hS hl (J_La_take l hfl h_v1 h_v3 hF) tw_828 tw_0 ⟨by decide, by decide⟩ (by decide +kernel) tw_826 tw_827 rfl ⟨⟨rfl, rfl⟩, ⟨by decide, by decide⟩, (by show _ ≤ 601024; omega), (by show _ ≤ 7293034; omega)⟩ (Nat.le_of_ble_eq_true rfl) rfl d_La_law_771) hS (fun x54 σ53 H locs hH hT hS hF => ?_)
        refine lv_istore hx hb d_La_law_774 hl (by decide) (lv' := [(6, .int x54), (0, .ref b), (1, .ref (Bm + v1)), (2, .ref (Bm + v2)), (3, .ref (Bm + v3)), (4, .ref (Bm + v4)), (5, .int x5)]) rfl (fun ls hl => ?_)
        refine lv_aload_n hx hb d_La_law_776 rfl (lv_at hl 3 rfl) ?_
        refine lv_aload_n hx hb d_La_law_777 rfl (lv_at hl 1 rfl) ?_
        refine lv_iload hx hb d_La_law_778 (lv_at hl 6 rfl) ?_
        refine lv_iconst hx hb d_La_law_780 ki_1 ?_
        refine lv_iadd hx hb d_La_law_781 ?_
        obtain ⟨g55, hF⟩ := hF
        refine va_sld hx hb hV hbl hbA hS g55 d_La_law_782 ?_
        refine rs_ci (rs_runV C hH hT hl (J_Mo_take l h_v2 hF) rc_Mo_take tw_1260 tw_1261 tw_1262 h_v2 ⟨rfl, by decide, by decide⟩ rfl ⟨⟨rfl, rfl⟩, ⟨by decide, by decide⟩, (by show _ ≤ 601024; omega), (by show _ ≤ 7293034; omega)⟩ (Nat.le_of_ble_eq_true rfl) rfl d_La_law_783) hS (fun x58 σ57 H locs hH hT hS hF => ?_)
        refine lv_istore hx hb d_La_law_786 hl (by decide) (lv' := [(7, .int x58), (6, .int x54), (0, .ref b), (1, .ref (Bm + v1)), (2, .ref (Bm + v2)), (3, .ref (Bm + v3)), (4, .ref (Bm + v4)), (5, .int x5)]) rfl (fun ls hl => ?_)
        refine lv_aload_n hx hb d_La_law_788 rfl (lv_at hl 4 rfl) ?_
        refine rs_ci (rs_runV C hH hT hl (J_Mo_thrown l h_v2 hF) rc_Mo_thrown tw_1023 tw_1024 tw_1025 h_v2 ⟨rfl, by decide, by decide⟩ rfl ⟨⟨rfl, rfl⟩, ⟨by decide, by decide⟩, (by show _ ≤ 601024; omega), (by show _ ≤ 7293034; omega)⟩ (Nat.le_of_ble_eq_true rfl) rfl d_La_law_789) hS (fun x61 σ60 H locs hH hT hS hF => ?_)
        refine lv_iload hx hb d_La_law_792 (lv_at hl 1 rfl) ?_
        refine lv_icmp_eq hx hb d_La_law_794 (tgt := 799) rfl (fun hc => ?_) (fun hc => ?_)
        · replace hF := hF.1 hc
          refine lv_iload hx hb d_La_law_799 (lv_at hl 1 rfl) ?_
          refine lv_if_ne hx hb d_La_law_801 (tgt := 816) rfl (fun hc => ?_) (fun hc => ?_)
          · replace hF := hF.1 hc
            refine lv_goto hx hb d_La_law_816 (tgt := 1199) rfl ?_
            obtain ⟨x62, ex62⟩ : ∃ z : Int32, z = x5 + (5 : Int32) := ⟨_, rfl⟩
            replace hF := hF x62 ex62
            refine lv_iinc hx hb d_La_law_1199 hl (k := 7) rfl (v := x62) (by rw [ki_5, ex62]) (by decide) (lv' := [(5, .int x62), (7, .int x58), (6, .int x54), (0, .ref b), (1, .ref (Bm + v1)), (2, .ref (Bm + v2)), (3, .ref (Bm + v3)), (4, .ref (Bm + v4))]) rfl (fun ls hl => ?_)
            refine lv_goto hx hb d_La_law_1202 (tgt := 28) rfl ?_
            exact hK28 v1 v2 v3 v4 x62 σ60 _ _ _ _ _ (by omega) (by omega) h_v1 h_v2 h_v3 h_v4 hH hT hS (lv_sub hl [3, 4, 5, 6, 7, 0] rfl) hF
          · replace hF := hF.2 hc
            refine lv_aload_n hx hb d_La_law_804 rfl (lv_at hl 5 rfl) ?_
            refine lv_iconst hx hb d_La_law_805 ki_0 ?_
            obtain ⟨g62, hF⟩ := hF
            refine rs_lald C hH h_v3 g62 d_La_law_806 ?_
            refine lv_iload hx hb d_La_law_807 (lv_at hl 0 rfl) ?_
            refine lv_i2l hx hb d_La_law_809 rfl ?_
            refine W.lcmp hx hb d_La_law_810 ?_
            refine lv_if_eq hx hb d_La_law_811 (tgt := 816) rfl (fun hc => ?_) (fun hc => ?_)
            · replace hF := hF.1 hc
              refine lv_goto hx hb d_La_law_816 (tgt := 1199) rfl ?_
              obtain ⟨x63, ex63⟩ : ∃ z : Int32, z = x5 + (5 : Int32) := ⟨_, rfl⟩
              replace hF := hF x63 ex63
              refine lv_iinc hx hb d_La_law_1199 hl (k := 7) rfl (v := x63) (by rw [ki_5, ex63]) (by decide) (lv' := [(5, .int x63), (7, .int x58), (6, .int x54), (0, .ref b), (1, .ref (Bm + v1)), (2, .ref (Bm + v2)), (3, .ref (Bm + v3)), (4, .ref (Bm + v4))]) rfl (fun ls hl => ?_)
              refine lv_goto hx hb d_La_law_1202 (tgt := 28) rfl ?_
              exact hK28 v1 v2 v3 v4 x63 σ60 _ _ _ _ _ (by omega) (by omega) h_v1 h_v2 h_v3 h_v4 hH hT hS (lv_sub hl [3, 4, 5, 6, 7, 0] rfl) hF
            · replace hF := hF.2 hc
              refine lv_iconst hx hb d_La_law_814 ki_0 ?_
              exact hF.elim
        · replace hF := hF.2 hc
          refine lv_iconst hx hb d_La_law_797 ki_0 ?_
          exact hF.elim
      · replace hF := hF.2.2.2.2.2.2.2.2.2.2.2.1 hc
        refine lv_tableIn hx hb d_La_law_44 (by rw [hc]; decide) (by rw [hc]; decide) (off := 775) (by rw [hc]; rfl) (tgt := 819) rfl ?_
        refine lv_aload_n hx hb d_La_law_819 rfl (lv_at hl 1 rfl) ?_
        refine rs_ci (rs_runV C hH hT hl (J_Sp_tick l h_v1 hF) rc_Sp_tick tw_339 tw_340 tw_341 h_v1 ⟨rfl, by decide, by decide⟩ rfl ⟨⟨rfl, rfl⟩, ⟨by decide, by decide⟩, (by show _ ≤ 601024; omega), (by show _ ≤ 7293034; omega)⟩ (Nat.le_of_ble_eq_true rfl) rfl d_La_law_820) hS (fun x54 σ53 H locs hH hT hS hF => ?_)
        refine lv_aload_n hx hb d_La_law_823 rfl (lv_at hl 2 rfl) ?_
        refine rs_ci (rs_runV C hH hT hl (J_Mo_tick l h_v2 hF) rc_Mo_tick tw_1254 tw_1255 tw_1256 h_v2 ⟨rfl, by decide, by decide⟩ rfl ⟨⟨rfl, rfl⟩, ⟨by decide, by decide⟩, (by show _ ≤ 601024; omega), (by show _ ≤ 7293034; omega)⟩ (Nat.le_of_ble_eq_true rfl) rfl d_La_law_824) hS (fun x57 σ56 H locs hH hT hS hF => ?_)
        refine lv_icmp_eq hx hb d_La_law_827 (tgt := 1199) rfl (fun hc => ?_) (fun hc => ?_)
        · replace hF := hF.1 hc
          obtain ⟨x58, ex58⟩ : ∃ z : Int32, z = x5 + (5 : Int32) := ⟨_, rfl⟩
          replace hF := hF x58 ex58
          refine lv_iinc hx hb d_La_law_1199 hl (k := 5) rfl (v := x58) (by rw [ki_5, ex58]) (by decide) (lv' := [(5, .int x58), (0, .ref b), (1, .ref (Bm + v1)), (2, .ref (Bm + v2)), (3, .ref (Bm + v3)), (4, .ref (Bm + v4))]) rfl (fun ls hl => ?_)
          refine lv_goto hx hb d_La_law_1202 (tgt := 28) rfl ?_
          exact hK28 v1 v2 v3 v4 x58 σ56 _ _ _ _ _ (by omega) (by omega) h_v1 h_v2 h_v3 h_v4 hH hT hS (lv_sub hl [1, 2, 3, 4, 5, 0] rfl) hF
        · replace hF := hF.2 hc
          refine lv_iconst hx hb d_La_law_830 ki_0 ?_
          exact hF.elim
      · replace hF := hF.2.2.2.2.2.2.2.2.2.2.2.2.1 hc
        refine lv_tableIn hx hb d_La_law_44 (by rw [hc]; decide) (by rw [hc]; decide) (off := 788) (by rw [hc]; rfl) (tgt := 832) rfl ?_
        refine lv_aload_n hx hb d_La_law_832 rfl (lv_at hl 1 rfl) ?_
        refine lv_aload_n hx hb d_La_law_833 rfl (lv_at hl 0 rfl) ?_
        refine lv_iload hx hb d_La_law_834 (lv_at hl 5 rfl) ?_
        refine lv_iconst hx hb d_La_law_836 ki_1 ?_
        refine lv_iadd hx hb d_La_law_837 ?_
        obtain ⟨g52, hF⟩ := hF
        refine va_sld hx hb hV hbl hbA hS g52 d_La_law_838 ?_
        refine lv_aload_n hx hb d_La_law_839 rfl (lv_at hl 0 rfl) ?_
        refine lv_iload hx hb d_La_law_840 (lv_at hl 5 rfl) ?_
        refine lv_iconst hx hb d_La_law_842 ki_2 ?_
        refine lv_iadd hx hb d_La_law_843 ?_
        obtain ⟨g53, hF⟩ := hF
        refine va_sld hx hb hV hbl hbA hS g53 d_La_law_844 ?_
        refine rs_ci (rs_runV C hH hT hl (J_Sp_session l h_v1 hF) rc_Sp_session tw_513 tw_514 tw_515 h_v1 ⟨rfl, by decide, by decide⟩ rfl ⟨⟨rfl, rfl⟩, ⟨by decide, by decide⟩, (by show _ ≤ 601024; omega), (by show _ ≤ 7293034; omega)⟩ (Nat.le_of_ble_eq_true rfl) rfl d_La_law_845) hS (fun x56 σ55 H locs hH hT hS hF => ?_)
        refine lv_aload_n hx hb d_La_law_848 rfl (lv_at hl 2 rfl) ?_
        refine lv_aload_n hx hb d_La_law_849 rfl (lv_at hl 0 rfl) ?_
        refine lv_iload hx hb d_La_law_850 (lv_at hl 5 rfl) ?_
        refine lv_iconst hx hb d_La_law_852 ki_1 ?_
        refine lv_iadd hx hb d_La_law_853 ?_
        obtain ⟨g57, hF⟩ := hF
        refine va_sld hx hb hV hbl hbA hS g57 d_La_law_854 ?_
        refine lv_aload_n hx hb d_La_law_855 rfl (lv_at hl 0 rfl) ?_
        refine lv_iload hx hb d_La_law_856 (lv_at hl 5 rfl) ?_
        refine lv_iconst hx hb d_La_law_858 ki_2 ?_
        refine lv_iadd hx hb d_La_law_859 ?_
        obtain ⟨g58, hF⟩ := hF
        refine va_sld hx hb hV hbl hbA hS g58 d_La_law_860 ?_
        refine rs_ci (rs_runV C hH hT hl (J_Mo_session l h_v2 hF) rc_Mo_session tw_1264 tw_1265 tw_1266 h_v2 ⟨rfl, by decide, by decide⟩ rfl ⟨⟨rfl, rfl⟩, ⟨by decide, by decide⟩, (by show _ ≤ 601024; omega), (by show _ ≤ 7293034; omega)⟩ (Nat.le_of_ble_eq_true rfl) rfl d_La_law_861) hS (fun x61 σ60 H locs hH hT hS hF => ?_)
        refine lv_icmp_eq hx hb d_La_law_864 (tgt := 1199) rfl (fun hc => ?_) (fun hc => ?_)
        · replace hF := hF.1 hc
          obtain ⟨x62, ex62⟩ : ∃ z : Int32, z = x5 + (5 : Int32) := ⟨_, rfl⟩
          replace hF := hF x62 ex62
          refine lv_iinc hx hb d_La_law_1199 hl (k := 5) rfl (v := x62) (by rw [ki_5, ex62]) (by decide) (lv' := [(5, .int x62), (0, .ref b), (1, .ref (Bm + v1)), (2, .ref (Bm + v2)), (3, .ref (Bm + v3)), (4, .ref (Bm + v4))]) rfl (fun ls hl => ?_)
          refine lv_goto hx hb d_La_law_1202 (tgt := 28) rfl ?_
          exact hK28 v1 v2 v3 v4 x62 σ60 _ _ _ _ _ (by omega) (by omega) h_v1 h_v2 h_v3 h_v4 hH hT hS (lv_sub hl [1, 2, 3, 4, 5, 0] rfl) hF
        · replace hF := hF.2 hc
          refine lv_iconst hx hb d_La_law_867 ki_0 ?_
          exact hF.elim
      · replace hF := hF.2.2.2.2.2.2.2.2.2.2.2.2.2.1 hc
        refine lv_tableIn hx hb d_La_law_44 (by rw [hc]; decide) (by rw [hc]; decide) (off := 825) (by rw [hc]; rfl) (tgt := 869) rfl ?_
        refine lv_aload_n hx hb d_La_law_869 rfl (lv_at hl 1 rfl) ?_
        refine lv_aload_n hx hb d_La_law_870 rfl (lv_at hl 0 rfl) ?_
        refine lv_iload hx hb d_La_law_871 (lv_at hl 5 rfl) ?_
        refine lv_iconst hx hb d_La_law_873 ki_1 ?_
        refine lv_iadd hx hb d_La_law_874 ?_
        obtain ⟨g52, hF⟩ := hF
        refine va_sld hx hb hV hbl hbA hS g52 d_La_law_875 ?_
        refine lv_aload_n hx hb d_La_law_876 rfl (lv_at hl 0 rfl) ?_
        refine lv_iload hx hb d_La_law_877 (lv_at hl 5 rfl) ?_
        refine lv_iconst hx hb d_La_law_879 ki_2 ?_
        refine lv_iadd hx hb d_La_law_880 ?_
        obtain ⟨g53, hF⟩ := hF
        refine va_sld hx hb hV hbl hbA hS g53 d_La_law_881 ?_
        refine lv_aload_n hx hb d_La_law_882 rfl (lv_at hl 0 rfl) ?_
        refine lv_iload hx hb d_La_law_883 (lv_at hl 5 rfl) ?_
        refine lv_iconst hx hb d_La_law_885 ki_3 ?_
        refine lv_iadd hx hb d_La_law_886 ?_
        obtain ⟨g54, hF⟩ := hF
        refine va_sld hx hb hV hbl hbA hS g54 d_La_law_887 ?_
        refine lv_aload_n hx hb d_La_law_888 rfl (lv_at hl 3 rfl) ?_
        refine rs_ci1 (rs_runSW (n := 5) C hX hH hT hS hl (J_La_best l hfl h_v1 h_v3 hF) tw_855 tw_0 ⟨by decide, by decide⟩ (by decide +kernel) tw_853 tw_854 rfl ⟨⟨rfl, rfl⟩, ⟨by decide, by decide⟩, (by show _ ≤ 601024; omega), (by show _ ≤ 7293034; omega)⟩ (Nat.le_of_ble_eq_true rfl) rfl d_La_law_889) hS (fun x56 σ55 H locs hH hT hS hF => ?_)
        refine lv_istore hx hb d_La_law_892 hl (by decide) (lv' := [(6, .int x56), (0, .ref b), (1, .ref (Bm + v1)), (2, .ref (Bm + v2)), (3, .ref (Bm + v3)), (4, .ref (Bm + v4)), (5, .int x5)]) rfl (fun ls hl => ?_)
        refine lv_aload_n hx hb d_La_law_894 rfl (lv_at hl 3 rfl) ?_
        refine lv_aload_n hx hb d_La_law_895 rfl (lv_at hl 1 rfl) ?_
        refine lv_iload hx hb d_La_law_896 (lv_at hl 6 rfl) ?_
        refine lv_iconst hx hb d_La_law_898 ki_1 ?_
        refine lv_iadd hx hb d_La_law_899 ?_
        obtain ⟨g57, hF⟩ := hF
        refine va_sld hx hb hV hbl hbA hS g57 d_La_law_900 ?_
        refine lv_aload_n hx hb d_La_law_901 rfl (lv_at hl 1 rfl) ?_
        refine lv_iload hx hb d_La_law_902 (lv_at hl 6 rfl) ?_
        refine lv_iconst hx hb d_La_law_904 ki_2 ?_
        refine lv_iadd hx hb d_La_law_905 ?_
        obtain ⟨g58, hF⟩ := hF
        refine va_sld hx hb hV hbl hbA hS g58 d_La_law_906 ?_
        refine lv_aload_n hx hb d_La_law_907 rfl (lv_at hl 1 rfl) ?_
        refine lv_iload hx hb d_La_law_908 (lv_at hl 6 rfl) ?_
        refine lv_iconst hx hb d_La_law_910 ki_3 ?_
        refine lv_iadd hx hb d_La_law_911 ?_
        obtain ⟨g59, hF⟩ := hF
        refine va_sld hx hb hV hbl hbA hS g59 d_La_law_912 ?_
        refine rs_ci (rs_runV C hH hT hl (J_Mo_best l h_v2 hF) rc_Mo_best tw_1268 tw_1269 tw_1270 h_v2 ⟨rfl, by decide, by decide⟩ rfl ⟨⟨rfl, rfl⟩, ⟨by decide, by decide⟩, (by show _ ≤ 601024; omega), (by show _ ≤ 7293034; omega)⟩ (Nat.le_of_ble_eq_true rfl) rfl d_La_law_913) hS (fun x62 σ61 H locs hH hT hS hF => ?_)
        refine lv_istore hx hb d_La_law_916 hl (by decide) (lv' := [(7, .int x62), (6, .int x56), (0, .ref b), (1, .ref (Bm + v1)), (2, .ref (Bm + v2)), (3, .ref (Bm + v3)), (4, .ref (Bm + v4)), (5, .int x5)]) rfl (fun ls hl => ?_)
        refine lv_aload_n hx hb d_La_law_918 rfl (lv_at hl 4 rfl) ?_
        refine rs_ci (rs_runV C hH hT hl (J_Mo_thrown l h_v2 hF) rc_Mo_thrown tw_1023 tw_1024 tw_1025 h_v2 ⟨rfl, by decide, by decide⟩ rfl ⟨⟨rfl, rfl⟩, ⟨by decide, by decide⟩, (by show _ ≤ 601024; omega), (by show _ ≤ 7293034; omega)⟩ (Nat.le_of_ble_eq_true rfl) rfl d_La_law_919) hS (fun x65 σ64 H locs hH hT hS hF => ?_)
        refine lv_iload hx hb d_La_law_922 (lv_at hl 1 rfl) ?_
        refine lv_icmp_eq hx hb d_La_law_924 (tgt := 929) rfl (fun hc => ?_) (fun hc => ?_)
        · replace hF := hF.1 hc
          refine lv_iload hx hb d_La_law_929 (lv_at hl 1 rfl) ?_
          refine lv_if_ne hx hb d_La_law_931 (tgt := 946) rfl (fun hc => ?_) (fun hc => ?_)
          · replace hF := hF.1 hc
            refine lv_goto hx hb d_La_law_946 (tgt := 1199) rfl ?_
            obtain ⟨x66, ex66⟩ : ∃ z : Int32, z = x5 + (5 : Int32) := ⟨_, rfl⟩
            replace hF := hF x66 ex66
            refine lv_iinc hx hb d_La_law_1199 hl (k := 7) rfl (v := x66) (by rw [ki_5, ex66]) (by decide) (lv' := [(5, .int x66), (7, .int x62), (6, .int x56), (0, .ref b), (1, .ref (Bm + v1)), (2, .ref (Bm + v2)), (3, .ref (Bm + v3)), (4, .ref (Bm + v4))]) rfl (fun ls hl => ?_)
            refine lv_goto hx hb d_La_law_1202 (tgt := 28) rfl ?_
            exact hK28 v1 v2 v3 v4 x66 σ64 _ _ _ _ _ (by omega) (by omega) h_v1 h_v2 h_v3 h_v4 hH hT hS (lv_sub hl [3, 4, 5, 6, 7, 0] rfl) hF
          · replace hF := hF.2 hc
            refine lv_aload_n hx hb d_La_law_934 rfl (lv_at hl 5 rfl) ?_
            refine lv_iconst hx hb d_La_law_935 ki_0 ?_
            obtain ⟨g66, hF⟩ := hF
            refine rs_lald C hH h_v3 g66 d_La_law_936 ?_
            refine lv_iload hx hb d_La_law_937 (lv_at hl 0 rfl) ?_
            refine lv_i2l hx hb d_La_law_939 rfl ?_
            refine W.lcmp hx hb d_La_law_940 ?_
            refine lv_if_eq hx hb d_La_law_941 (tgt := 946) rfl (fun hc => ?_) (fun hc => ?_)
            · replace hF := hF.1 hc
              refine lv_goto hx hb d_La_law_946 (tgt := 1199) rfl ?_
              obtain ⟨x67, ex67⟩ : ∃ z : Int32, z = x5 + (5 : Int32) := ⟨_, rfl⟩
              replace hF := hF x67 ex67
              refine lv_iinc hx hb d_La_law_1199 hl (k := 7) rfl (v := x67) (by rw [ki_5, ex67]) (by decide) (lv' := [(5, .int x67), (7, .int x62), (6, .int x56), (0, .ref b), (1, .ref (Bm + v1)), (2, .ref (Bm + v2)), (3, .ref (Bm + v3)), (4, .ref (Bm + v4))]) rfl (fun ls hl => ?_)
              refine lv_goto hx hb d_La_law_1202 (tgt := 28) rfl ?_
              exact hK28 v1 v2 v3 v4 x67 σ64 _ _ _ _ _ (by omega) (by omega) h_v1 h_v2 h_v3 h_v4 hH hT hS (lv_sub hl [3, 4, 5, 6, 7, 0] rfl) hF
            · replace hF := hF.2 hc
              refine lv_iconst hx hb d_La_law_944 ki_0 ?_
              exact hF.elim
        · replace hF := hF.2 hc
          refine lv_iconst hx hb d_La_law_927 ki_0 ?_
          exact hF.elim
      · replace hF := hF.2.2.2.2.2.2.2.2.2.2.2.2.2.2.1 hc
        refine lv_tableIn hx hb d_La_law_44 (by rw [hc]; decide) (by rw [hc]; decide) (off := 905) (by rw [hc]; rfl) (tgt := 949) rfl ?_
        refine lv_aload_n hx hb d_La_law_949 rfl (lv_at hl 1 rfl) ?_
        refine lv_aload_n hx hb d_La_law_950 rfl (lv_at hl 0 rfl) ?_
        refine lv_iload hx hb d_La_law_951 (lv_at hl 5 rfl) ?_
        refine lv_iconst hx hb d_La_law_953 ki_1 ?_
        refine lv_iadd hx hb d_La_law_954 ?_
        obtain ⟨g52, hF⟩ := hF
        refine va_sld hx hb hV hbl hbA hS g52 d_La_law_955 ?_
        refine lv_aload_n hx hb d_La_law_956 rfl (lv_at hl 0 rfl) ?_
        refine lv_iload hx hb d_La_law_957 (lv_at hl 5 rfl) ?_
        refine lv_iconst hx hb d_La_law_959 ki_2 ?_
        refine lv_iadd hx hb d_La_law_960 ?_
        obtain ⟨g53, hF⟩ := hF
        refine va_sld hx hb hV hbl hbA hS g53 d_La_law_961 ?_
        refine lv_aload_n hx hb d_La_law_962 rfl (lv_at hl 0 rfl) ?_
        refine lv_iload hx hb d_La_law_963 (lv_at hl 5 rfl) ?_
        refine lv_iconst hx hb d_La_law_965 ki_3 ?_
        refine lv_iadd hx hb d_La_law_966 ?_
        obtain ⟨g54, hF⟩ := hF
        refine va_sld hx hb hV hbl hbA hS g54 d_La_law_967 ?_
        refine lv_aload_n hx hb d_La_law_968 rfl (lv_at hl 3 rfl) ?_
        refine rs_ci1 (rs_runSW (n := 5) C hX hH hT hS hl (J_La_flaw l hfl h_v1 h_v3 hF) tw_869 tw_0 ⟨by decide, by decide⟩ (by decide +kernel) tw_867 tw_868 rfl ⟨⟨rfl, rfl⟩, ⟨by decide, by decide⟩, (by show _ ≤ 601024; omega), (by show _ ≤ 7293034; omega)⟩ (Nat.le_of_ble_eq_true rfl) rfl d_La_law_969) hS (fun x56 σ55 H locs hH hT hS hF => ?_)
        refine lv_istore hx hb d_La_law_972 hl (by decide) (lv' := [(6, .int x56), (0, .ref b), (1, .ref (Bm + v1)), (2, .ref (Bm + v2)), (3, .ref (Bm + v3)), (4, .ref (Bm + v4)), (5, .int x5)]) rfl (fun ls hl => ?_)
        refine lv_aload_n hx hb d_La_law_974 rfl (lv_at hl 3 rfl) ?_
        refine lv_aload_n hx hb d_La_law_975 rfl (lv_at hl 1 rfl) ?_
        refine lv_iload hx hb d_La_law_976 (lv_at hl 6 rfl) ?_
        refine lv_iconst hx hb d_La_law_978 ki_1 ?_
        refine lv_iadd hx hb d_La_law_979 ?_
        obtain ⟨g57, hF⟩ := hF
        refine va_sld hx hb hV hbl hbA hS g57 d_La_law_980 ?_
        refine lv_aload_n hx hb d_La_law_981 rfl (lv_at hl 1 rfl) ?_
        refine lv_iload hx hb d_La_law_982 (lv_at hl 6 rfl) ?_
        refine lv_iconst hx hb d_La_law_984 ki_2 ?_
        refine lv_iadd hx hb d_La_law_985 ?_
        obtain ⟨g58, hF⟩ := hF
        refine va_sld hx hb hV hbl hbA hS g58 d_La_law_986 ?_
        refine lv_aload_n hx hb d_La_law_987 rfl (lv_at hl 1 rfl) ?_
        refine lv_iload hx hb d_La_law_988 (lv_at hl 6 rfl) ?_
        refine lv_iconst hx hb d_La_law_990 ki_3 ?_
        refine lv_iadd hx hb d_La_law_991 ?_
        obtain ⟨g59, hF⟩ := hF
        refine va_sld hx hb hV hbl hbA hS g59 d_La_law_992 ?_
        refine rs_ci (rs_runV C hH hT hl (J_Mo_flaw l h_v2 hF) rc_Mo_flaw tw_1276 tw_1277 tw_1278 h_v2 ⟨rfl, by decide, by decide⟩ rfl ⟨⟨rfl, rfl⟩, ⟨by decide, by decide⟩, (by show _ ≤ 601024; omega), (by show _ ≤ 7293034; omega)⟩ (Nat.le_of_ble_eq_true rfl) rfl d_La_law_993) hS (fun x62 σ61 H locs hH hT hS hF => ?_)
        refine lv_istore hx hb d_La_law_996 hl (by decide) (lv' := [(7, .int x62), (6, .int x56), (0, .ref b), (1, .ref (Bm + v1)), (2, .ref (Bm + v2)), (3, .ref (Bm + v3)), (4, .ref (Bm + v4)), (5, .int x5)]) rfl (fun ls hl => ?_)
        refine lv_aload_n hx hb d_La_law_998 rfl (lv_at hl 4 rfl) ?_
        refine rs_ci (rs_runV C hH hT hl (J_Mo_thrown l h_v2 hF) rc_Mo_thrown tw_1023 tw_1024 tw_1025 h_v2 ⟨rfl, by decide, by decide⟩ rfl ⟨⟨rfl, rfl⟩, ⟨by decide, by decide⟩, (by show _ ≤ 601024; omega), (by show _ ≤ 7293034; omega)⟩ (Nat.le_of_ble_eq_true rfl) rfl d_La_law_999) hS (fun x65 σ64 H locs hH hT hS hF => ?_)
        refine lv_iload hx hb d_La_law_1002 (lv_at hl 1 rfl) ?_
        refine lv_icmp_eq hx hb d_La_law_1004 (tgt := 1009) rfl (fun hc => ?_) (fun hc => ?_)
        · replace hF := hF.1 hc
          refine lv_iload hx hb d_La_law_1009 (lv_at hl 1 rfl) ?_
          refine lv_if_ne hx hb d_La_law_1011 (tgt := 1026) rfl (fun hc => ?_) (fun hc => ?_)
          · replace hF := hF.1 hc
            refine lv_goto hx hb d_La_law_1026 (tgt := 1199) rfl ?_
            obtain ⟨x66, ex66⟩ : ∃ z : Int32, z = x5 + (5 : Int32) := ⟨_, rfl⟩
            replace hF := hF x66 ex66
            refine lv_iinc hx hb d_La_law_1199 hl (k := 7) rfl (v := x66) (by rw [ki_5, ex66]) (by decide) (lv' := [(5, .int x66), (7, .int x62), (6, .int x56), (0, .ref b), (1, .ref (Bm + v1)), (2, .ref (Bm + v2)), (3, .ref (Bm + v3)), (4, .ref (Bm + v4))]) rfl (fun ls hl => ?_)
            refine lv_goto hx hb d_La_law_1202 (tgt := 28) rfl ?_
            exact hK28 v1 v2 v3 v4 x66 σ64 _ _ _ _ _ (by omega) (by omega) h_v1 h_v2 h_v3 h_v4 hH hT hS (lv_sub hl [3, 4, 5, 6, 7, 0] rfl) hF
          · replace hF := hF.2 hc
            refine lv_aload_n hx hb d_La_law_1014 rfl (lv_at hl 5 rfl) ?_
            refine lv_iconst hx hb d_La_law_1015 ki_0 ?_
            obtain ⟨g66, hF⟩ := hF
            refine rs_lald C hH h_v3 g66 d_La_law_1016 ?_
            refine lv_iload hx hb d_La_law_1017 (lv_at hl 0 rfl) ?_
            refine lv_i2l hx hb d_La_law_1019 rfl ?_
            refine W.lcmp hx hb d_La_law_1020 ?_
            refine lv_if_eq hx hb d_La_law_1021 (tgt := 1026) rfl (fun hc => ?_) (fun hc => ?_)
            · replace hF := hF.1 hc
              refine lv_goto hx hb d_La_law_1026 (tgt := 1199) rfl ?_
              obtain ⟨x67, ex67⟩ : ∃ z : Int32, z = x5 + (5 : Int32) := ⟨_, rfl⟩
              replace hF := hF x67 ex67
              refine lv_iinc hx hb d_La_law_1199 hl (k := 7) rfl (v := x67) (by rw [ki_5, ex67]) (by decide) (lv' := [(5, .int x67), (7, .int x62), (6, .int x56), (0, .ref b), (1, .ref (Bm + v1)), (2, .ref (Bm + v2)), (3, .ref (Bm + v3)), (4, .ref (Bm + v4))]) rfl (fun ls hl => ?_)
              refine lv_goto hx hb d_La_law_1202 (tgt := 28) rfl ?_
              exact hK28 v1 v2 v3 v4 x67 σ64 _ _ _ _ _ (by omega) (by omega) h_v1 h_v2 h_v3 h_v4 hH hT hS (lv_sub hl [3, 4, 5, 6, 7, 0] rfl) hF
            · replace hF := hF.2 hc
              refine lv_iconst hx hb d_La_law_1024 ki_0 ?_
              exact hF.elim
        · replace hF := hF.2 hc
          refine lv_iconst hx hb d_La_law_1007 ki_0 ?_
          exact hF.elim
      · replace hF := hF.2.2.2.2.2.2.2.2.2.2.2.2.2.2.2.1 hc
        refine lv_tableIn hx hb d_La_law_44 (by rw [hc]; decide) (by rw [hc]; decide) (off := 985) (by rw [hc]; rfl) (tgt := 1029) rfl ?_
        refine lv_aload_n hx hb d_La_law_1029 rfl (lv_at hl 1 rfl) ?_
        refine lv_aload_n hx hb d_La_law_1030 rfl (lv_at hl 0 rfl) ?_
        refine lv_iload hx hb d_La_law_1031 (lv_at hl 5 rfl) ?_
        refine lv_iconst hx hb d_La_law_1033 ki_1 ?_
        refine lv_iadd hx hb d_La_law_1034 ?_
        obtain ⟨g52, hF⟩ := hF
        refine va_sld hx hb hV hbl hbA hS g52 d_La_law_1035 ?_
        refine lv_aload_n hx hb d_La_law_1036 rfl (lv_at hl 0 rfl) ?_
        refine lv_iload hx hb d_La_law_1037 (lv_at hl 5 rfl) ?_
        refine lv_iconst hx hb d_La_law_1039 ki_2 ?_
        refine lv_iadd hx hb d_La_law_1040 ?_
        obtain ⟨g53, hF⟩ := hF
        refine va_sld hx hb hV hbl hbA hS g53 d_La_law_1041 ?_
        refine lv_aload_n hx hb d_La_law_1042 rfl (lv_at hl 0 rfl) ?_
        refine lv_iload hx hb d_La_law_1043 (lv_at hl 5 rfl) ?_
        refine lv_iconst hx hb d_La_law_1045 ki_3 ?_
        refine lv_iadd hx hb d_La_law_1046 ?_
        obtain ⟨g54, hF⟩ := hF
        refine va_sld hx hb hV hbl hbA hS g54 d_La_law_1047 ?_
        refine lv_aload hx hb d_La_law_1048 (lv_at hl 4 rfl) ?_
        refine rs_ci1 (rs_runSW (n := 5) C hX hH hT hS hl (J_La_penalty l hfl h_v1 h_v4 hF) tw_876 tw_0 ⟨by decide, by decide⟩ (by decide +kernel) tw_874 tw_875 rfl ⟨⟨rfl, rfl⟩, ⟨by decide, by decide⟩, (by show _ ≤ 601024; omega), (by show _ ≤ 7293034; omega)⟩ (Nat.le_of_ble_eq_true rfl) rfl d_La_law_1050) hS (fun x56 σ55 H locs hH hT hS hF => ?_)
        refine lv_istore hx hb d_La_law_1053 hl (by decide) (lv' := [(6, .int x56), (0, .ref b), (1, .ref (Bm + v1)), (2, .ref (Bm + v2)), (3, .ref (Bm + v3)), (4, .ref (Bm + v4)), (5, .int x5)]) rfl (fun ls hl => ?_)
        refine lv_aload_n hx hb d_La_law_1055 rfl (lv_at hl 3 rfl) ?_
        refine lv_aload_n hx hb d_La_law_1056 rfl (lv_at hl 1 rfl) ?_
        refine lv_iload hx hb d_La_law_1057 (lv_at hl 6 rfl) ?_
        refine lv_iconst hx hb d_La_law_1059 ki_1 ?_
        refine lv_iadd hx hb d_La_law_1060 ?_
        obtain ⟨g57, hF⟩ := hF
        refine va_sld hx hb hV hbl hbA hS g57 d_La_law_1061 ?_
        refine lv_aload_n hx hb d_La_law_1062 rfl (lv_at hl 1 rfl) ?_
        refine lv_iload hx hb d_La_law_1063 (lv_at hl 6 rfl) ?_
        refine lv_iconst hx hb d_La_law_1065 ki_2 ?_
        refine lv_iadd hx hb d_La_law_1066 ?_
        obtain ⟨g58, hF⟩ := hF
        refine va_sld hx hb hV hbl hbA hS g58 d_La_law_1067 ?_
        refine lv_aload_n hx hb d_La_law_1068 rfl (lv_at hl 1 rfl) ?_
        refine lv_iload hx hb d_La_law_1069 (lv_at hl 6 rfl) ?_
        refine lv_iconst hx hb d_La_law_1071 ki_3 ?_
        refine lv_iadd hx hb d_La_law_1072 ?_
        obtain ⟨g59, hF⟩ := hF
        refine va_sld hx hb hV hbl hbA hS g59 d_La_law_1073 ?_
        refine rs_cd (rs_runV C hH hT hl (J_Mo_penalty l h_v2 hF) rc_Mo_penalty tw_1280 tw_1281 tw_1282 h_v2 ⟨rfl, by decide, by decide⟩ rfl ⟨⟨rfl, rfl⟩, ⟨by decide, by decide⟩, (by show _ ≤ 601024; omega), (by show _ ≤ 7293034; omega)⟩ (Nat.le_of_ble_eq_true rfl) rfl d_La_law_1074) hS (fun x62 σ61 H locs hH hT hS hF => ?_)
        refine lv_dstore hx hb d_La_law_1077 hl (by decide) (lv' := [(7, .double x62), (6, .int x56), (0, .ref b), (1, .ref (Bm + v1)), (2, .ref (Bm + v2)), (3, .ref (Bm + v3)), (4, .ref (Bm + v4)), (5, .int x5)]) rfl (fun ls hl => ?_)
        refine lv_aload_n hx hb d_La_law_1079 rfl (lv_at hl 4 rfl) ?_
        refine rs_ci (rs_runV C hH hT hl (J_Mo_thrown l h_v2 hF) rc_Mo_thrown tw_1023 tw_1024 tw_1025 h_v2 ⟨rfl, by decide, by decide⟩ rfl ⟨⟨rfl, rfl⟩, ⟨by decide, by decide⟩, (by show _ ≤ 601024; omega), (by show _ ≤ 7293034; omega)⟩ (Nat.le_of_ble_eq_true rfl) rfl d_La_law_1080) hS (fun x65 σ64 H locs hH hT hS hF => ?_)
        refine lv_iload hx hb d_La_law_1083 (lv_at hl 1 rfl) ?_
        refine lv_icmp_eq hx hb d_La_law_1085 (tgt := 1090) rfl (fun hc => ?_) (fun hc => ?_)
        · replace hF := hF.1 hc
          refine lv_iload hx hb d_La_law_1090 (lv_at hl 1 rfl) ?_
          refine lv_if_ne hx hb d_La_law_1092 (tgt := 1127) rfl (fun hc => ?_) (fun hc => ?_)
          · replace hF := hF.1 hc
            refine lv_goto hx hb d_La_law_1127 (tgt := 1199) rfl ?_
            obtain ⟨x66, ex66⟩ : ∃ z : Int32, z = x5 + (5 : Int32) := ⟨_, rfl⟩
            replace hF := hF x66 ex66
            refine lv_iinc hx hb d_La_law_1199 hl (k := 7) rfl (v := x66) (by rw [ki_5, ex66]) (by decide) (lv' := [(5, .int x66), (7, .double x62), (6, .int x56), (0, .ref b), (1, .ref (Bm + v1)), (2, .ref (Bm + v2)), (3, .ref (Bm + v3)), (4, .ref (Bm + v4))]) rfl (fun ls hl => ?_)
            refine lv_goto hx hb d_La_law_1202 (tgt := 28) rfl ?_
            exact hK28 v1 v2 v3 v4 x66 σ64 _ _ _ _ _ (by omega) (by omega) h_v1 h_v2 h_v3 h_v4 hH hT hS (lv_sub hl [3, 4, 5, 6, 7, 0] rfl) hF
          · replace hF := hF.2 hc
            refine lv_aload hx hb d_La_law_1095 (lv_at hl 6 rfl) ?_
            refine lv_iconst hx hb d_La_law_1097 ki_0 ?_
            obtain ⟨g66, hF⟩ := hF
            refine rs_dald C hH h_v4 g66 d_La_law_1098 ?_
            refine lv_dload hx hb d_La_law_1099 (lv_at hl 0 rfl) ?_
            refine lv_dcmp hx hb d_La_law_1101 ?_
            refine lv_if_eq hx hb d_La_law_1102 (tgt := 1127) rfl (fun hc => ?_) (fun hc => ?_)
            · replace hF := hF.1 hc
              refine lv_goto hx hb d_La_law_1127 (tgt := 1199) rfl ?_
              obtain ⟨x67, ex67⟩ : ∃ z : Int32, z = x5 + (5 : Int32) := ⟨_, rfl⟩
              replace hF := hF x67 ex67
              refine lv_iinc hx hb d_La_law_1199 hl (k := 7) rfl (v := x67) (by rw [ki_5, ex67]) (by decide) (lv' := [(5, .int x67), (7, .double x62), (6, .int x56), (0, .ref b), (1, .ref (Bm + v1)), (2, .ref (Bm + v2)), (3, .ref (Bm + v3)), (4, .ref (Bm + v4))]) rfl (fun ls hl => ?_)
              refine lv_goto hx hb d_La_law_1202 (tgt := 28) rfl ?_
              exact hK28 v1 v2 v3 v4 x67 σ64 _ _ _ _ _ (by omega) (by omega) h_v1 h_v2 h_v3 h_v4 hH hT hS (lv_sub hl [3, 4, 5, 6, 7, 0] rfl) hF
            · replace hF := hF.2 hc
              refine lv_aload hx hb d_La_law_1105 (lv_at hl 6 rfl) ?_
              refine lv_iconst hx hb d_La_law_1107 ki_0 ?_
              obtain ⟨g67, hF⟩ := hF
              refine rs_dald C hH h_v4 g67 d_La_law_1108 ?_
              refine lv_aload hx hb d_La_law_1109 (lv_at hl 6 rfl) ?_
              refine lv_iconst hx hb d_La_law_1111 ki_0 ?_
              obtain ⟨g68, hF⟩ := hF
              refine rs_dald C hH h_v4 g68 d_La_law_1112 ?_
              refine lv_dcmp hx hb d_La_law_1113 ?_
              refine lv_if_eq hx hb d_La_law_1114 (tgt := 1125) rfl (fun hc => ?_) (fun hc => ?_)
              · replace hF := hF.1 hc
                refine lv_iconst hx hb d_La_law_1125 ki_0 ?_
                exact hF.elim
              · replace hF := hF.2 hc
                refine lv_dload hx hb d_La_law_1117 (lv_at hl 0 rfl) ?_
                refine lv_dload hx hb d_La_law_1119 (lv_at hl 0 rfl) ?_
                refine lv_dcmp hx hb d_La_law_1121 ?_
                refine lv_if_ne hx hb d_La_law_1122 (tgt := 1127) rfl (fun hc => ?_) (fun hc => ?_)
                · replace hF := hF.1 hc
                  refine lv_goto hx hb d_La_law_1127 (tgt := 1199) rfl ?_
                  obtain ⟨x69, ex69⟩ : ∃ z : Int32, z = x5 + (5 : Int32) := ⟨_, rfl⟩
                  replace hF := hF x69 ex69
                  refine lv_iinc hx hb d_La_law_1199 hl (k := 7) rfl (v := x69) (by rw [ki_5, ex69]) (by decide) (lv' := [(5, .int x69), (7, .double x62), (6, .int x56), (0, .ref b), (1, .ref (Bm + v1)), (2, .ref (Bm + v2)), (3, .ref (Bm + v3)), (4, .ref (Bm + v4))]) rfl (fun ls hl => ?_)
                  refine lv_goto hx hb d_La_law_1202 (tgt := 28) rfl ?_
                  exact hK28 v1 v2 v3 v4 x69 σ64 _ _ _ _ _ (by omega) (by omega) h_v1 h_v2 h_v3 h_v4 hH hT hS (lv_sub hl [3, 4, 5, 6, 7, 0] rfl) hF
                · replace hF := hF.2 hc
                  refine lv_iconst hx hb d_La_law_1125 ki_0 ?_
                  exact hF.elim
        · replace hF := hF.2 hc
          refine lv_iconst hx hb d_La_law_1088 ki_0 ?_
          exact hF.elim
      · replace hF := hF.2.2.2.2.2.2.2.2.2.2.2.2.2.2.2.2.1 hc
        refine lv_tableIn hx hb d_La_law_44 (by rw [hc]; decide) (by rw [hc]; decide) (off := 1086) (by rw [hc]; rfl) (tgt := 1130) rfl ?_
        refine lv_aload_n hx hb d_La_law_1130 rfl (lv_at hl 1 rfl) ?_
        refine lv_aload_n hx hb d_La_law_1131 rfl (lv_at hl 0 rfl) ?_
        refine lv_iload hx hb d_La_law_1132 (lv_at hl 5 rfl) ?_
        refine lv_iconst hx hb d_La_law_1134 ki_1 ?_
        refine lv_iadd hx hb d_La_law_1135 ?_
        obtain ⟨g52, hF⟩ := hF
        refine va_sld hx hb hV hbl hbA hS g52 d_La_law_1136 ?_
        refine lv_aload_n hx hb d_La_law_1137 rfl (lv_at hl 3 rfl) ?_
        refine rs_ci1 (rs_runSW (n := 3) C hX hH hT hS hl (J_La_forward l hfl h_v1 h_v3 hF) tw_887 tw_0 ⟨by decide, by decide⟩ (by decide +kernel) tw_885 tw_886 rfl ⟨⟨rfl, rfl⟩, ⟨by decide, by decide⟩, (by show _ ≤ 601024; omega), (by show _ ≤ 7293034; omega)⟩ (Nat.le_of_ble_eq_true rfl) rfl d_La_law_1138) hS (fun x54 σ53 H locs hH hT hS hF => ?_)
        refine lv_istore hx hb d_La_law_1141 hl (by decide) (lv' := [(6, .int x54), (0, .ref b), (1, .ref (Bm + v1)), (2, .ref (Bm + v2)), (3, .ref (Bm + v3)), (4, .ref (Bm + v4)), (5, .int x5)]) rfl (fun ls hl => ?_)
        refine lv_aload_n hx hb d_La_law_1143 rfl (lv_at hl 3 rfl) ?_
        refine lv_aload_n hx hb d_La_law_1144 rfl (lv_at hl 1 rfl) ?_
        refine lv_iload hx hb d_La_law_1145 (lv_at hl 6 rfl) ?_
        refine lv_iconst hx hb d_La_law_1147 ki_1 ?_
        refine lv_iadd hx hb d_La_law_1148 ?_
        obtain ⟨g55, hF⟩ := hF
        refine va_sld hx hb hV hbl hbA hS g55 d_La_law_1149 ?_
        refine rs_ci (rs_runV C hH hT hl (J_Mo_forward l h_v2 hF) rc_Mo_forward tw_1284 tw_1285 tw_1286 h_v2 ⟨rfl, by decide, by decide⟩ rfl ⟨⟨rfl, rfl⟩, ⟨by decide, by decide⟩, (by show _ ≤ 601024; omega), (by show _ ≤ 7293034; omega)⟩ (Nat.le_of_ble_eq_true rfl) rfl d_La_law_1150) hS (fun x58 σ57 H locs hH hT hS hF => ?_)
        refine lv_istore hx hb d_La_law_1153 hl (by decide) (lv' := [(7, .int x58), (6, .int x54), (0, .ref b), (1, .ref (Bm + v1)), (2, .ref (Bm + v2)), (3, .ref (Bm + v3)), (4, .ref (Bm + v4)), (5, .int x5)]) rfl (fun ls hl => ?_)
        refine lv_aload_n hx hb d_La_law_1155 rfl (lv_at hl 4 rfl) ?_
        refine rs_ci (rs_runV C hH hT hl (J_Mo_thrown l h_v2 hF) rc_Mo_thrown tw_1023 tw_1024 tw_1025 h_v2 ⟨rfl, by decide, by decide⟩ rfl ⟨⟨rfl, rfl⟩, ⟨by decide, by decide⟩, (by show _ ≤ 601024; omega), (by show _ ≤ 7293034; omega)⟩ (Nat.le_of_ble_eq_true rfl) rfl d_La_law_1156) hS (fun x61 σ60 H locs hH hT hS hF => ?_)
        refine lv_iload hx hb d_La_law_1159 (lv_at hl 1 rfl) ?_
        refine lv_icmp_eq hx hb d_La_law_1161 (tgt := 1166) rfl (fun hc => ?_) (fun hc => ?_)
        · replace hF := hF.1 hc
          refine lv_iload hx hb d_La_law_1166 (lv_at hl 1 rfl) ?_
          refine lv_if_ne hx hb d_La_law_1168 (tgt := 1183) rfl (fun hc => ?_) (fun hc => ?_)
          · replace hF := hF.1 hc
            refine lv_goto hx hb d_La_law_1183 (tgt := 1199) rfl ?_
            obtain ⟨x62, ex62⟩ : ∃ z : Int32, z = x5 + (5 : Int32) := ⟨_, rfl⟩
            replace hF := hF x62 ex62
            refine lv_iinc hx hb d_La_law_1199 hl (k := 7) rfl (v := x62) (by rw [ki_5, ex62]) (by decide) (lv' := [(5, .int x62), (7, .int x58), (6, .int x54), (0, .ref b), (1, .ref (Bm + v1)), (2, .ref (Bm + v2)), (3, .ref (Bm + v3)), (4, .ref (Bm + v4))]) rfl (fun ls hl => ?_)
            refine lv_goto hx hb d_La_law_1202 (tgt := 28) rfl ?_
            exact hK28 v1 v2 v3 v4 x62 σ60 _ _ _ _ _ (by omega) (by omega) h_v1 h_v2 h_v3 h_v4 hH hT hS (lv_sub hl [3, 4, 5, 6, 7, 0] rfl) hF
          · replace hF := hF.2 hc
            refine lv_aload_n hx hb d_La_law_1171 rfl (lv_at hl 5 rfl) ?_
            refine lv_iconst hx hb d_La_law_1172 ki_0 ?_
            obtain ⟨g62, hF⟩ := hF
            refine rs_lald C hH h_v3 g62 d_La_law_1173 ?_
            refine lv_iload hx hb d_La_law_1174 (lv_at hl 0 rfl) ?_
            refine lv_i2l hx hb d_La_law_1176 rfl ?_
            refine W.lcmp hx hb d_La_law_1177 ?_
            refine lv_if_eq hx hb d_La_law_1178 (tgt := 1183) rfl (fun hc => ?_) (fun hc => ?_)
            · replace hF := hF.1 hc
              refine lv_goto hx hb d_La_law_1183 (tgt := 1199) rfl ?_
              obtain ⟨x63, ex63⟩ : ∃ z : Int32, z = x5 + (5 : Int32) := ⟨_, rfl⟩
              replace hF := hF x63 ex63
              refine lv_iinc hx hb d_La_law_1199 hl (k := 7) rfl (v := x63) (by rw [ki_5, ex63]) (by decide) (lv' := [(5, .int x63), (7, .int x58), (6, .int x54), (0, .ref b), (1, .ref (Bm + v1)), (2, .ref (Bm + v2)), (3, .ref (Bm + v3)), (4, .ref (Bm + v4))]) rfl (fun ls hl => ?_)
              refine lv_goto hx hb d_La_law_1202 (tgt := 28) rfl ?_
              exact hK28 v1 v2 v3 v4 x63 σ60 _ _ _ _ _ (by omega) (by omega) h_v1 h_v2 h_v3 h_v4 hH hT hS (lv_sub hl [3, 4, 5, 6, 7, 0] rfl) hF
            · replace hF := hF.2 hc
              refine lv_iconst hx hb d_La_law_1181 ki_0 ?_
              exact hF.elim
        · replace hF := hF.2 hc
          refine lv_iconst hx hb d_La_law_1164 ki_0 ?_
          exact hF.elim
      · replace hF := hF.2.2.2.2.2.2.2.2.2.2.2.2.2.2.2.2.2 hc
        refine lv_tableIn hx hb d_La_law_44 (by rw [hc]; decide) (by rw [hc]; decide) (off := 1142) (by rw [hc]; rfl) (tgt := 1186) rfl ?_
        refine lv_aload_n hx hb d_La_law_1186 rfl (lv_at hl 1 rfl) ?_
        refine rs_ci (rs_runV C hH hT hl (J_Sp_known l h_v1 hF) rc_Sp_known tw_520 tw_521 tw_522 h_v1 ⟨rfl, by decide, by decide⟩ rfl ⟨⟨rfl, rfl⟩, ⟨by decide, by decide⟩, (by show _ ≤ 601024; omega), (by show _ ≤ 7293034; omega)⟩ (Nat.le_of_ble_eq_true rfl) rfl d_La_law_1187) hS (fun x54 σ53 H locs hH hT hS hF => ?_)
        refine lv_aload_n hx hb d_La_law_1190 rfl (lv_at hl 2 rfl) ?_
        refine rs_ci (rs_runV C hH hT hl (J_Mo_known l h_v2 hF) rc_Mo_known tw_1288 tw_1289 tw_1290 h_v2 ⟨rfl, by decide, by decide⟩ rfl ⟨⟨rfl, rfl⟩, ⟨by decide, by decide⟩, (by show _ ≤ 601024; omega), (by show _ ≤ 7293034; omega)⟩ (Nat.le_of_ble_eq_true rfl) rfl d_La_law_1191) hS (fun x57 σ56 H locs hH hT hS hF => ?_)
        refine lv_icmp_eq hx hb d_La_law_1194 (tgt := 1199) rfl (fun hc => ?_) (fun hc => ?_)
        · replace hF := hF.1 hc
          obtain ⟨x58, ex58⟩ : ∃ z : Int32, z = x5 + (5 : Int32) := ⟨_, rfl⟩
          replace hF := hF x58 ex58
          refine lv_iinc hx hb d_La_law_1199 hl (k := 5) rfl (v := x58) (by rw [ki_5, ex58]) (by decide) (lv' := [(5, .int x58), (0, .ref b), (1, .ref (Bm + v1)), (2, .ref (Bm + v2)), (3, .ref (Bm + v3)), (4, .ref (Bm + v4))]) rfl (fun ls hl => ?_)
          refine lv_goto hx hb d_La_law_1202 (tgt := 28) rfl ?_
          exact hK28 v1 v2 v3 v4 x58 σ56 _ _ _ _ _ (by omega) (by omega) h_v1 h_v2 h_v3 h_v4 hH hT hS (lv_sub hl [1, 2, 3, 4, 5, 0] rfl) hF
        · replace hF := hF.2 hc
          refine lv_iconst hx hb d_La_law_1197 ki_0 ?_
          exact hF.elim
