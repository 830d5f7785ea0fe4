/-! looking at a message -/
section LK
variable {μ σ : rs_Mem} {a : Ab} {p n : Nat} {m : Nat → Nat}
theorem prA_eq {b j k : Nat} : prA m b j = prA m b k ↔ nI (m (b + 2 * j)) = nI (m (b + 2 * k)) ∧ nI (m (b + 2 * j + 1)) = nI (m (b + 2 * k + 1)) := by
  unfold prA
  rw [Prod.mk.injEq]
theorem mem_prL {b k : Nat} {x : Int32 × Int32} : x ∈ prL m b k ↔ ∃ j, j < k ∧ prA m b j = x := by
  unfold prL
  simp only [List.mem_map, List.mem_range]
theorem P_Up_isFirstOfItsKind {v k : Nat} {Q : Int32 → rs_Mem → Prop} (hM : Ms σ v n m) (hC : Cn σ n m) (hf : frmU m n) (hk : k < anU m n) (k1 : prA m (toU m) k ∉ prL m (toU m) k → Q 1 σ) (k0 : ¬ prA m (toU m) k ∉ prL m (toU m) k → Q 0 σ) : F_Up_isFirstOfItsKind NF 10 (nI k) σ Q := by
  obtain ⟨m1, m2, m3, m4, m5⟩ := hM
  obtain ⟨c4, c5, c6, c7⟩ := hC
  obtain ⟨f1, f2, f3, -⟩ := hf
  have i2 : (2 : Int32) = nI 2 := by decide
  have han : toU m + 2 * anU m n = n := by unfold anU; omega
  have key : ∀ d j, j + d = k → prA m (toU m) k ∉ prL m (toU m) j → L_Up_isFirstOfItsKind_8 NF Q (d + 1) 10 (nI k) (nI (toU m + 2 * k)) (nI j) σ := by
    intro d
    induction d with
    | zero =>
      intro j hj hn
      have e : j = k := by omega
      subst e
      exact w_t ((nIle (by omega) (by omega)).mpr (by omega)) (k1 hn)
    | succ d ih =>
      intro j hj hn
      refine w_f (fun h => by have := (nIle (by omega) (by omega)).mp h; omega) ?_
      unfold F_Up_announcedAt
      rw [c7, i2, nI_mul, nI_add]
      dsimp only
      rw [m1, m3, nI_1 (toU m + 2 * j), nI_1 (toU m + 2 * k), nIc (n := toU m + 2 * j) (by omega), nIc (n := toU m + 2 * k) (by omega), nIc (n := toU m + 2 * j + 1) (by omega), nIc (n := toU m + 2 * k + 1) (by omega), (m5 (toU m + 2 * j) (by omega)).1, (m5 (toU m + 2 * k) (by omega)).1, (m5 (toU m + 2 * j + 1) (by omega)).1, (m5 (toU m + 2 * k + 1) (by omega)).1]
      have step : prA m (toU m) j ≠ prA m (toU m) k → L_Up_isFirstOfItsKind_8 NF Q (d + 1) 10 (nI k) (nI (toU m + 2 * k)) (nI (j + 1)) σ := fun hne => by
        refine ih (j + 1) (by omega) ?_
        rw [prL_succ, List.mem_append, List.mem_singleton]
        exact fun z => z.elim hn (fun e => hne e.symm)
      refine ⟨vpn (by omega) (by omega), vpn (by omega) (by omega), fun hx x ex => ?_, fun hx => ⟨vpn (by omega) (by omega), vpn (by omega) (by omega), fun hy x ex => ?_, fun hy => k0 (fun z => z ?_)⟩⟩
      · subst ex; rw [nI_1]; exact step (fun e => hx (prA_eq.mp e).1)
      · subst ex; rw [nI_1]; exact step (fun e => hy (prA_eq.mp e).2)
      · exact mem_prL.mpr ⟨j, by omega, prA_eq.mpr ⟨hx, hy⟩⟩
  unfold F_Up_isFirstOfItsKind F_Up_announcedAt
  rw [c7, i2, nI_mul, nI_add]
  exact ⟨_, key k 0 (by omega) (by unfold prL; simp)⟩
theorem newC_le {pre : List (Int32 × Int32)} : ∀ (l dn : List (Int32 × Int32)), newC pre dn l ≤ l.length
  | [], _ => Nat.le_refl 0
  | x :: t, dn => by
    have := newC_le (pre := pre) t (dn ++ [x])
    unfold newC
    rw [List.length_cons]
    split <;> omega
theorem newC_snoc {pre : List (Int32 × Int32)} : ∀ (l dn : List (Int32 × Int32)) (x : Int32 × Int32), newC pre dn (l ++ [x]) = newC pre dn l + (if x ∉ pre ∧ x ∉ dn ++ l then 1 else 0)
  | [], dn, x => by
    show (if x ∉ pre ∧ x ∉ dn then 1 else 0) + 0 = 0 + _
    rw [List.append_nil]; omega
  | y :: t, dn, x => by
    show (if y ∉ pre ∧ y ∉ dn then 1 else 0) + newC pre (dn ++ [y]) (t ++ [x]) = (if y ∉ pre ∧ y ∉ dn then 1 else 0) + newC pre (dn ++ [y]) t + _
    rw [newC_snoc t (dn ++ [y]) x]
    simp only [List.append_assoc, List.singleton_append]
    omega
theorem P_Up_countKnown {v : Nat} {Q : Int32 → rs_Mem → Prop} (hG : Gr σ) {pre : List (Int32 × Int32)} {org : Nat → Bool} (hP : RPx σ pre org) (hM : Ms σ v n m) (hC : Cn σ n m) (hf : frmU m n) (kk : Q (nI (pre.length + newC pre [] (prL m (toU m) (anU m n)))) σ) : F_Up_countKnown NF 10 2 σ Q := by
  have hM2 := hM
  obtain ⟨m1, m2, m3, m4, m5⟩ := hM2
  obtain ⟨f1, f2, f3, -⟩ := id hf
  have i2 : (2 : Int32) = nI 2 := by decide
  have han : toU m + 2 * anU m n = n := by unfold anU; omega
  have hpl := hP.2.1
  have hll : ∀ j, (prL m (toU m) j).length = j := fun j => by unfold prL; simp
  intro x ex
  rw [hP.1] at ex
  subst ex
  have key : ∀ d j, j + d = anU m n → L_Up_countKnown_7 NF Q (d + 1) 10 2 (nI (pre.length + newC pre [] (prL m (toU m) j))) (nI j) σ := by
    intro d
    induction d with
    | zero =>
      intro j hj
      have e : j = anU m n := by omega
      subst e
      exact w_t (by rw [hC.2.1]; exact (nIle (by omega) (by omega)).mpr (by omega)) kk
    | succ d ih =>
      intro j hj
      refine w_f (fun h => by rw [hC.2.1] at h; have := (nIle (by omega) (by omega)).mp h; omega) ?_
      unfold F_Up_announcedAt
      rw [hC.2.2.2, i2, nI_mul, nI_add]
      dsimp only
      rw [m1, m3, nI_1 (toU m + 2 * j), nIc (n := toU m + 2 * j) (by omega), nIc (n := toU m + 2 * j + 1) (by omega), (m5 (toU m + 2 * j) (by omega)).1, (m5 (toU m + 2 * j + 1) (by omega)).1]
      have hs := newC_snoc (pre := pre) (prL m (toU m) j) [] (prA m (toU m) j)
      rw [← prL_succ, List.nil_append] at hs
      have hi : ∀ q, q ∈ pre → pre.idxOf q < pre.length := fun q hq => mem_lt hq
      have same : ¬ (prA m (toU m) j ∉ pre ∧ prA m (toU m) j ∉ prL m (toU m) j) → L_Up_countKnown_7 NF Q (d + 1) 10 2 (nI (pre.length + newC pre [] (prL m (toU m) j))) (nI (j + 1)) σ := fun hc => by
        have := ih (j + 1) (by omega)
        rw [hs, if_neg hc, Nat.add_zero] at this
        exact this
      refine ⟨vpn (by omega) (by omega), vpn (by omega) (by omega), P_Px_find hG hP (fun hm => v_f (nIm1 (by have := hi _ hm; omega)) (fun x ex => ?_)) (fun hm => v_t rfl ?_)⟩
      · subst ex
        rw [nI_1]
        exact same (fun z => z.1 hm)
      · refine P_Up_isFirstOfItsKind hM hC hf (by omega) (fun hk => w_f (by decide) (fun x ex y ey => ?_)) (fun hk => w_t rfl (fun x ex => ?_))
        · subst ex
          subst ey
          rw [nI_1, nI_1]
          have := ih (j + 1) (by omega)
          rw [hs, if_pos ⟨hm, hk⟩] at this
          exact this
        · subst ex
          rw [nI_1]
          exact same (fun z => hk z.2)
  have k0 := key (anU m n) 0 (by omega)
  exact ⟨_, k0⟩
/-- an UPDATE, a KEEPALIVE or an OPEN when the session is up -/
noncomputable def upA (a : Ab) (p : Nat) (m : Nat → Nat) (n : Nat) (ty : Int32) : Ab :=
  if ty = 1 then stPe a p (endS (aPe a p) 5 3)
  else if ty ≠ 2 then stPe a p (sHt (aPe a p) (pHo (aPe a p)))
  else if fltU m n (decide (pRole (aPe a p) = 0)) (pNet (aPe a p)) ≠ 0 then stPe a p (endS (sHt (aPe a p) (pHo (aPe a p))) 3 (fltU m n (decide (pRole (aPe a p) = 0)) (pNet (aPe a p))))
  else if 12 < (aPre a).length + newC (aPre a) [] (prL m (toU m) (anU m n)) then stPe a p (endS (sHt (aPe a p) (pHo (aPe a p))) 6 1)
  else takeA (stPe a p (sHt (aPe a p) (pHo (aPe a p)))) p m n (rtX m (decide (pRole (aPe a p) = 0)))
theorem sHt_get {s : Ps} {x : Int32} : pRole (sHt s x) = pRole s ∧ pNet (sHt s x) = pNet s ∧ pPen (sHt s x) = pPen s := by
  refine ⟨?_, ?_, ?_⟩ <;> simp only [sHt, pRole, pNet, pPen]
theorem CR.upd {τ : rs_Mem} (h : CR μ σ a) (f : Fr FrU σ τ) (hG : Gr τ) : CR μ τ a := h.fr f hG (fun u z => by unfold FrU at z; omega)
theorem P_Pe_lookWhenUp {ty : Int32} {Q : rs_Mem → Prop} (h : CR μ σ a) (hp : p < 4) (hn : nnS (aPe a p)) (hn60 : n ≤ 60) (hn3 : ty = 2 → 3 ≤ n) (hn0 : 0 < n) (hm : Mg σ (pb p + 5) n m) (hm0 : m 0 = n) (kk : ∀ τ, CR μ τ (upA a p m n ty) → Q τ) : F_Pe_lookWhenUp NF (pb p) ty 10 2 σ Q := by
  have hpb : 29 ≤ pb p := by unfold pb; omega
  have hs := h.2.2.2 p hp
  unfold upA at kk
  refine ⟨fun h1 σ1 e1 => ?_, fun h1 => ?_⟩
  rotate_left
  · rw [if_pos h1] at kk
    exact P_Pe_end h.1 hp hs (fun τ g1 g2 g3 => kk τ (h.pe (g2.mono fun u z => Or.inl z) g3 g1))
  rw [if_neg h1] at kk
  rw [hs.1.2.2.2.2.2.2.2.2.1] at e1
  have hs1 : RPe σ1 (pb p) (aPre a) (sHt (aPe a p) (pHo (aPe a p))) := by rw [e1]; exact hs.sHt
  have f1 : Fr (fun u => u = pb p) σ σ1 := by rw [e1]; exact Fr.sI (A := fun u => u = pb p) Fr.rf rfl
  have hG1 : Gr σ1 := e1 ▸ h.1
  have hc1 : CR μ σ1 (stPe a p (sHt (aPe a p) (pHo (aPe a p)))) := h.pe (f1.mono fun u z => Or.inl (by unfold FPp; omega)) hG1 hs1
  generalize hS1 : sHt (aPe a p) (pHo (aPe a p)) = s1 at kk hs1 hc1
  obtain ⟨q1, q2, q3⟩ := sHt_get (s := aPe a p) (x := pHo (aPe a p))
  rw [hS1] at q1 q2 q3
  refine ⟨fun h2 => ?_, fun h2 => ?_⟩
  rotate_left
  · rw [if_pos h2] at kk
    exact kk σ1 hc1
  rw [if_neg (fun z => z h2)] at kk
  have hm1 : Mg σ1 (pb p + 5) n m := hm.fr f1 (by omega)
  have t0 : (0 : Int32).toNatClampNeg = 0 := by decide
  rw [gp_0_12 hG1 hp, np_5 hp, t0, (hm1 0 hn0).1, hm0, hs1.1.1, q1]
  generalize hE : decide (pRole (aPe a p) = 0) = ext at kk
  refine ⟨vpl rfl, ?_⟩
  have main : B_Pe_lookWhenUp_49 NF Q (pb p) 10 2 10 (pb p + 5) (nI n) (b2i ext) σ1 := by
    unfold B_Pe_lookWhenUp_49
    rw [hs1.1.2.1, q2]
    refine P_Up_faultOf hG1 (by omega) (np_5 hp) hn60 (hn3 h2) hm1 (fun τ g1 g2 g3 g4 => ?_)
    have hcτ : CR μ τ (stPe a p s1) := hc1.upd g3 g4
    have hmτ : Mg τ (pb p + 5) n m := hm1.fr g3 (by unfold FrU; omega)
    have hMs : Ms τ (pb p + 5) n m := ⟨g2, by omega, np_5 hp, hn60, hmτ⟩
    have hsτ : RPe τ (pb p) (aPre a) s1 := by
      have := hcτ.2.2.2 p hp
      rw [stPe_at] at this
      exact this
    refine ⟨fun h0 => ?_, fun h0 => ?_⟩
    · rw [if_neg (fun z => z h0)] at kk
      obtain ⟨gf, gC, gr⟩ := g1 h0
      refine P_Up_countKnown g4 hcτ.2.1 hMs gC gf ?_
      have i12 : (12 : Int32) = nI 12 := by decide
      have hll : (prL m (toU m) (anU m n)).length = anU m n := by unfold prL; simp
      have hnl := newC_le (pre := aPre a) (prL m (toU m) (anU m n)) []
      have hal : anU m n ≤ n := by unfold anU; omega
      have hpl : (aPre a).length ≤ 12 := h.2.1.2.1
      show (nI ((aPre a).length + newC (aPre a) [] (prL m (toU m) (anU m n))) ≤ (12 : Int32) → _) ∧ (¬ nI ((aPre a).length + newC (aPre a) [] (prL m (toU m) (anU m n))) ≤ (12 : Int32) → _)
      rw [i12, nIle (by omega) (by omega)]
      refine ⟨fun hle => ?_, fun hgt => ?_⟩
      · rw [if_neg (by omega)] at kk
        refine P_Pe_takeIn hcτ hp (by rw [stPe_at]; unfold nnS; rw [q3]; exact hn) hn60 ⟨hmτ, gC, gr⟩ gf (fun ρ t1 t2 => kk ρ t1)
      · rw [if_pos (by omega)] at kk
        refine P_Pe_end g4 hp hsτ (fun ρ t1 t2 t3 => kk ρ ?_)
        have := hcτ.pe (t2.mono fun u z => Or.inl z) t3 t1
        rw [stPe_self] at this
        exact this
    · rw [if_pos h0] at kk
      refine P_Pe_end g4 hp hsτ (fun ρ t1 t2 t3 => kk ρ ?_)
      have := hcτ.pe (t2.mono fun u z => Or.inl z) t3 t1
      rw [stPe_self] at this
      exact this
  refine ⟨fun hr => ?_, fun hr => ?_⟩
  · rw [decide_eq_false hr] at hE
    subst hE
    exact main
  · rw [decide_eq_true hr] at hE
    subst hE
    exact main
end LK
