/-! the class's calls that set things -/
abbrev okP (x : Int32) : Prop := 0 ≤ x ∧ x < 4
theorem okP_of {x : Int32} (h : okP x) : ∃ p, p < 4 ∧ x = nI p := by
  obtain ⟨j, hj, rfl⟩ := nI_of (x := x) (by have := h.1; grind)
  refine ⟨j, ?_, rfl⟩
  have h2 := h.2
  have e4 : (4 : Int32) = nI 4 := by decide
  rw [e4, nI_ltI hj (by omega)] at h2
  exact h2
theorem okP_nI {p : Nat} (h : p < 4) : okP (nI p) := by
  have e4 : (4 : Int32) = nI 4 := by decide
  have e0 : (0 : Int32) = nI 0 := by decide
  unfold okP
  rw [e4, e0, nIle (by omega) (by omega), nIlt (by omega) (by omega)]
  omega
def tN (x : Int32) : Nat := x.toNatClampNeg
theorem tN_nI {p : Nat} (h : p < 1000000) : tN (nI p) = p := nIc h
def opPeer (a : Ab) (x y z : Int32) : Int32 × Ab :=
  if ¬ (okP x ∧ 0 ≤ y ∧ y ≤ 2 ∧ (y = 0 → isNum z ∧ z ≠ 100)) then (1, a)
  else if pSt (aPe a (tN x)) ≠ 0 then (2, a)
  else (0, stPe a (tN x) (sNet (sRole (aPe a (tN x)) y) (if y = 0 then z else 100)))
def opRule (a : Ab) (x y z u : Int32) : Int32 × Ab :=
  if ¬ (okP x ∧ isPfx y z ∧ 0 ≤ u ∧ u ≤ 200) then (1, a)
  else if (pRul (aPe a (tN x))).length = 3 then (2, a)
  else (0, tAll 5 (stPe a (tN x) (sRul (aPe a (tN x)) (pRul (aPe a (tN x)) ++ [(y, z, u)]))))
def opUnrule (a : Ab) (x : Int32) : Int32 × Ab := if ¬ okP x then (1, a) else (0, tAll 5 (stPe a (tN x) (sRul (aPe a (tN x)) [])))
def opOutb (a : Ab) (x y z u : Int32) : Int32 × Ab :=
  if ¬ (okP x ∧ 0 ≤ y ∧ y ≤ 3 ∧ (z = -1 ∨ isPfx z u)) then (1, a)
  else (0, tAll 5 (stPe a (tN x) (sMa (sMl (sPad (aPe a (tN x)) y) z) u)))
section CA
variable {μ σ : rs_Mem} {a : Ab} {Q : Int32 → rs_Mem → Prop}
theorem CR.gp {p : Nat} (h : CR μ σ a) (hp : p < 4) : rs_R σ (rs_R σ 1 1) p = pb p := by rw [gr_1_1 h.1]; exact gr_6 h.1 hp
theorem P_Pe_isIdle {p : Nat} (h : CR μ σ a) (hp : p < 4) (k1 : pSt (aPe a p) = 0 → Q 1 σ) (k0 : pSt (aPe a p) ≠ 0 → Q 0 σ) : F_Pe_isIdle NF (pb p) σ Q := by
  unfold F_Pe_isIdle
  rw [(h.2.2.2 p hp).1.2.2.2.2.2.1]
  exact ⟨k0, k1⟩
/-- from a peer's number -/
theorem P_peerNo {x : Int32} (k1 : okP x → Q 1 σ) (k0 : ¬ okP x → Q 0 σ) : F_Sp_isPeer NF x σ Q := P_Sp_isPeer k1 k0
theorem C_peer {x y z : Int32} (h : CR μ σ a) (kk : ∀ τ, CR μ τ (opPeer a x y z).2 → Q (opPeer a x y z).1 τ) : F_La_peer NF 1 x y z σ Q := by
  have bad : ¬ (okP x ∧ 0 ≤ y ∧ y ≤ 2 ∧ (y = 0 → isNum z ∧ z ≠ 100)) → ((1 : Nat) = 1 ∧ Q 1 σ) ∨ ((1 : Nat) = 2 ∧ Q 2 σ) := fun hc => by
    unfold opPeer at kk
    rw [if_pos hc] at kk
    exact Or.inl ⟨rfl, kk σ h⟩
  unfold F_La_peer F_Sp_peer
  refine P_peerNo (fun hx => w_f (by decide) ⟨fun hy => bad (fun z => by have := z.2.1; grind), fun hy => ⟨fun hy2 => ?_, fun hy2 => bad (fun z => hy2 z.2.2.1)⟩⟩) (fun hx => w_t rfl (bad (fun z => hx z.1)))
  obtain ⟨p, hp, rfl⟩ := okP_of hx
  have hs := h.2.2.2 p hp
  have htn : tN (nI p) = p := tN_nI (by omega)
  have fin : ∀ e : Bool, (e = true ↔ y = 0) → (y = 0 → isNum z ∧ z ≠ 100) → B_Sp_peer_61 NF (fun σ51 => Q 0 σ51) (fun k53 σ51 => ((k53 = 1 ∧ (Q (1 : Int32) σ51)) ∨ (k53 = 2 ∧ (Q (2 : Int32) σ51)))) 1 (nI p) y z (b2i e) σ := fun e he hz => by
    have hg : okP (nI p) ∧ 0 ≤ y ∧ y ≤ 2 ∧ (y = 0 → isNum z ∧ z ≠ 100) := ⟨hx, by grind, hy2, hz⟩
    unfold opPeer at kk
    rw [if_neg (fun n => n hg), htn] at kk
    unfold B_Sp_peer_61
    rw [gr_1_1 h.1, nf_6, nIc (by omega), gr_6 h.1 hp]
    refine ⟨vpn hp (by omega), P_Pe_isIdle h hp (fun h0 => v_f (by decide) ⟨by rw [gr_1_1 h.1, nf_6]; exact vpn hp (by omega), fun σ1 e1 => ?_⟩) (fun h0 => v_t rfl ?_)⟩
    · rw [if_neg (fun n => n h0)] at kk
      rw [h.gp hp] at e1
      have hG1 : Gr σ1 := e1 ▸ h.1
      have h1 : RPe σ1 (pb p) (aPre a) (sRole (aPe a p) y) := by rw [e1]; exact hs.sRole
      rw [gr_1_1 hG1, nf_6, gr_6 hG1 hp]
      have q : FPp p (pb p) := ⟨Nat.le_refl _, by omega⟩
      refine ⟨vpn hp (by omega), fun hz σ2 e2 => ?_, fun hz σ2 e2 => ?_⟩
      · have hy0 : ¬ y = 0 := fun n => by rw [he.mpr n] at hz; exact absurd hz (by decide)
        rw [if_neg hy0] at kk
        refine kk σ2 (h.fp (by rw [e2, e1]; exact (Fr.rf.sI q).sI q) (by rw [e2]; exact hG1) ?_)
        rw [e2]; exact h1.sNet
      · have hy0 : y = 0 := he.mp (by cases e with
          | true => rfl
          | false => exact absurd rfl hz)
        rw [if_pos hy0] at kk
        refine kk σ2 (h.fp (by rw [e2, e1]; exact (Fr.rf.sI q).sI q) (by rw [e2]; exact hG1) ?_)
        rw [e2]; exact h1.sNet
    · rw [if_pos h0] at kk
      exact Or.inr ⟨rfl, kk σ h⟩
  refine ⟨fun hy0 => w_t rfl (fin false ⟨(fun n => by cases n), fun n => absurd n hy0⟩ (fun n => absurd n hy0)), fun hy0 => w_f (by decide) (P_Sp_isNumber (fun hn => w_f (by decide) ⟨fun h100 => fin true ⟨fun _ => hy0, fun _ => rfl⟩ (fun _ => ⟨hn, h100⟩), fun h100 => bad (fun n => (n.2.2.2 hy0).2 h100)⟩) (fun hn => w_t rfl (bad (fun n => hn (n.2.2.2 hy0).1))))⟩
theorem okPad_pe {p : Nat} {s : Ps} (h : okPad a) (hs : pPad s = pPad (aPe a p)) : okPad (stPe a p s) := fun q hq => by
  by_cases e : q = p
  · subst e; rw [stPe_at, hs]; exact h q hq
  · rw [stPe_ne e]; exact h q hq
theorem C_rule {x y z u : Int32} (h : CR μ σ a) (hpad : okPad a) (kk : ∀ τ, CR μ τ (opRule a x y z u).2 → Q (opRule a x y z u).1 τ) : F_La_rule NF 1 x y z u σ Q := by
  have bad : ¬ (okP x ∧ isPfx y z ∧ 0 ≤ u ∧ u ≤ 200) → ((1 : Nat) = 1 ∧ Q 1 σ) ∨ ((1 : Nat) = 2 ∧ Q 2 σ) := fun hc => by
    unfold opRule at kk
    rw [if_pos hc] at kk
    exact Or.inl ⟨rfl, kk σ h⟩
  unfold F_La_rule F_Sp_rule
  refine P_peerNo (fun hx => w_f (by decide) (P_Sp_isPrefix (fun hpf => w_f (by decide) ⟨fun hu => bad (fun n => by have := n.2.2.1; grind), fun hu => ⟨fun hu2 => ?_, fun hu2 => bad (fun n => hu2 n.2.2.2)⟩⟩) (fun hpf => w_t rfl (bad (fun n => hpf n.2.1))))) (fun hx => w_t rfl (bad (fun n => hx n.1)))
  obtain ⟨p, hp, rfl⟩ := okP_of hx
  have hs := h.2.2.2 p hp
  have htn : tN (nI p) = p := tN_nI (by omega)
  have hg : okP (nI p) ∧ isPfx y z ∧ 0 ≤ u ∧ u ≤ 200 := ⟨hx, hpf, by grind, hu2⟩
  unfold opRule at kk
  rw [if_neg (fun n => n hg), htn] at kk
  rw [gr_1_1 h.1, nf_6, nIc (by omega), gr_6 h.1 hp, gp_0_5 h.1 hp]
  refine ⟨vpn hp (by omega), P_Ru_add (RuS_pe h.1 hp) hs.2.2.2.1 (fun h3 => v_t rfl ?_) (fun h3 τ g1 g2 g3 g4 => v_f (by decide) ?_)⟩
  · rw [if_pos h3] at kk
    exact Or.inr ⟨rfl, kk σ h⟩
  · rw [if_neg (by omega)] at kk
    have hc := h.fp (s := sRul (aPe a p) (pRul (aPe a p) ++ [(y, z, u)])) (g2.mono fun u q => by unfold FPp; omega) (Gr_of h.1 g3) (hs.sRul (g2.mono fun u q => by omega) g1)
    exact P_Sp_tellAll hc (okPad_pe hpad (by simp only [sRul, pPad])) kk
theorem C_unrule {x : Int32} (h : CR μ σ a) (hpad : okPad a) (kk : ∀ τ, CR μ τ (opUnrule a x).2 → Q (opUnrule a x).1 τ) : F_La_unrule NF 1 x σ Q := by
  unfold opUnrule at kk
  unfold F_La_unrule F_Sp_unrule
  refine P_peerNo (fun hx => v_f (by decide) ?_) (fun hx => v_t rfl ⟨rfl, ?_⟩)
  · rw [if_neg (fun n => n hx)] at kk
    obtain ⟨p, hp, rfl⟩ := okP_of hx
    have hs := h.2.2.2 p hp
    rw [tN_nI (by omega)] at kk
    rw [gr_1_1 h.1, nf_6, nIc (by omega), gr_6 h.1 hp, gp_0_5 h.1 hp]
    refine ⟨vpn hp (by omega), P_Ru_clear (fun τ g1 g2 g3 => ?_) h.1⟩
    have hc := h.fp (s := sRul (aPe a p) []) (g2.mono fun u q => by unfold FPp; omega) g3 (hs.sRul (g2.mono fun u q => by omega) g1)
    exact P_Sp_tellAll hc (okPad_pe hpad (by simp only [sRul, pPad])) kk
  · rw [if_pos hx] at kk
    exact kk σ h
theorem C_outb {x y z u : Int32} (h : CR μ σ a) (hpad : okPad a) (kk : ∀ τ, CR μ τ (opOutb a x y z u).2 → Q (opOutb a x y z u).1 τ) : F_La_outbound NF 1 x y z u σ Q := by
  have bad : ¬ (okP x ∧ 0 ≤ y ∧ y ≤ 3 ∧ (z = -1 ∨ isPfx z u)) → ((1 : Nat) = 1 ∧ Q 1 σ) := fun hc => by
    unfold opOutb at kk
    rw [if_pos hc] at kk
    exact ⟨rfl, kk σ h⟩
  unfold F_La_outbound F_Sp_outbound
  refine P_peerNo (fun hx => w_f (by decide) ⟨fun hy => bad (fun n => by have := n.2.1; grind), fun hy => ⟨fun hy2 => ?_, fun hy2 => bad (fun n => hy2 n.2.2.1)⟩⟩) (fun hx => w_t rfl (bad (fun n => hx n.1)))
  obtain ⟨p, hp, rfl⟩ := okP_of hx
  have hs := h.2.2.2 p hp
  have fin : (z = -1 ∨ isPfx z u) → B_Sp_outbound_46 NF (fun σ51 => Q 0 σ51) (fun k53 σ51 => ((k53 = 1 ∧ (Q (1 : Int32) σ51)))) 1 (nI p) y z u σ := fun hz => by
    have hg : okP (nI p) ∧ 0 ≤ y ∧ y ≤ 3 ∧ (z = -1 ∨ isPfx z u) := ⟨hx, by grind, hy2, hz⟩
    unfold opOutb at kk
    rw [if_neg (fun n => n hg), tN_nI (by omega)] at kk
    unfold B_Sp_outbound_46
    rw [gr_1_1 h.1, nf_6, nIc (by omega), gr_6 h.1 hp]
    refine ⟨vpn hp (by omega), fun σ1 e1 => ?_⟩
    have hG1 : Gr σ1 := e1 ▸ h.1
    have h1 : RPe σ1 (pb p) (aPre a) (sPad (aPe a p) y) := by rw [e1]; exact hs.sPad
    rw [gr_1_1 hG1, nf_6, gr_6 hG1 hp]
    refine ⟨vpn hp (by omega), fun σ2 e2 => ?_⟩
    have hG2 : Gr σ2 := e2 ▸ hG1
    have h2 : RPe σ2 (pb p) (aPre a) (sMl (sPad (aPe a p) y) z) := by rw [e2]; exact h1.sMl
    rw [gr_1_1 hG2, nf_6, gr_6 hG2 hp]
    refine ⟨vpn hp (by omega), fun σ3 e3 => ?_⟩
    have h3 : RPe σ3 (pb p) (aPre a) (sMa (sMl (sPad (aPe a p) y) z) u) := by rw [e3]; exact h2.sMa
    have q : FPp p (pb p) := ⟨Nat.le_refl _, by omega⟩
    have hc := h.fp (by rw [e3, e2, e1]; exact ((Fr.rf.sI q).sI q).sI q) (by rw [e3]; exact hG2) h3
    refine P_Sp_tellAll hc (fun r hr => ?_) kk
    by_cases e : r = p
    · subst e
      rw [stPe_at]
      have ep : pPad (sMa (sMl (sPad (aPe a r) y) z) u) = y := by simp only [sMa, sMl, sPad, pPad]
      rw [ep]
      obtain ⟨j, hj, rfl⟩ := nI_of hy
      refine ⟨j, ?_, rfl⟩
      have e3 : (3 : Int32) = nI 3 := by decide
      rw [e3, nI_leI hj (by omega)] at hy2
      exact hy2
    · rw [stPe_ne e]; exact hpad r hr
  exact ⟨fun hz => fin (Or.inl hz), fun hz => P_Sp_isPrefix (fun hpf => v_f (by decide) (fin (Or.inr hpf))) (fun hpf => v_t rfl (bad (fun n => n.2.2.2.elim hz hpf)))⟩
end CA
