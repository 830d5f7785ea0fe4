/-! what a peer was told -/
def upO {α : Type} (f : Nat → α) (k : Nat) (v : α) : Nat → α := fun j => if j = k then v else f j
theorem upO_same {α : Type} {f : Nat → α} {k : Nat} {v : α} : upO f k v k = v := if_pos rfl
theorem upO_ne {α : Type} {f : Nat → α} {k j : Nat} {v : α} (h : j ≠ k) : upO f k v j = f j := if_neg h
theorem msgA_len {t : List Int32} {q : Int32 × Int32} : (msgA t q).length = t.length + 6 := by unfold msgA; simp
theorem msgA_0 {t : List Int32} {q : Int32 × Int32} (h : 0 < (msgA t q).length) : (msgA t q)[0] = nI (t.length + 6) := rfl
theorem msgA_inj {t t' : List Int32} {q : Int32 × Int32} (h1 : t.length ≤ 33) (h2 : t'.length ≤ 33) (h : ∀ k, k < t.length + 6 → ∀ (a : k < (msgA t q).length) (b : k < (msgA t' q).length), (msgA t' q)[k] = (msgA t q)[k]) (h0 : t.length = t'.length) : t' = t := by
  have e : msgA t' q = msgA t q := by
    refine List.ext_getElem (by rw [msgA_len, msgA_len, h0]) (fun k a b => ?_)
    exact h k (by rw [msgA_len] at b; exact b) b a
  unfold msgA at e
  simp only [List.cons.injEq, true_and] at e
  exact (List.append_inj' e.2.2 rfl).1
section TO
variable {σ : rs_Mem} {p i : Nat} {pre : List (Int32 × Int32)} {s : Ps} {t : List Int32} {q : Int32 × Int32}
theorem P_Pe_isTold {o : Option (List Int32)} {Q : Int32 → rs_Mem → Prop} (hG : Gr σ) (hp : p < 4) (hi : i < 12) (h : RT1 σ (pb p) pre i o) (hq : pre[i]? = some q) (hL : LD σ q (msgA t q)) (ht : t.length ≤ 33) (h1 : o = some t → Q 1 σ) (h0 : o ≠ some t → Q 0 σ) : F_Pe_isTold NF (pb p) (nI i) 27 σ Q := by
  obtain ⟨a1, a2, a3, a4, a5⟩ := hL
  have hlen := msgA_len (t := t) (q := q)
  have e40 : (40 : Int32) = nI 40 := by decide
  have key : ∀ d j, j + d = (msgA t q).length → (∀ k (hk : k < j) (hk2 : k < (msgA t q).length), rs_I σ (pb p + 51 + i) k = (msgA t q)[k]) → L_Pe_isTold_2 NF Q (d + 1) (pb p) (nI i) 27 (nI j) σ := by
    intro d
    induction d with
    | zero =>
      intro j hj hk
      refine w_t (by rw [a3]; exact (nIle (by omega) (by omega)).mpr (by omega)) (h1 ?_)
      have z := hk 0 (by omega) (by omega)
      rw [msgA_0] at z
      cases ho : o with
      | none =>
        have := h.1 ho
        rw [this] at z
        have z2 : nI 0 = nI (t.length + 6) := by rw [nI_0]; exact z
        rw [nIeq (by omega) (by omega)] at z2
        omega
      | some t' =>
        obtain ⟨q', e1, e2, e3⟩ := h.2 t' ho
        rw [hq] at e1
        have e1 := Option.some.inj e1
        subst e1
        have hlen' := msgA_len (t := t') (q := q)
        have z3 := e3.get0 (k := 0) (by omega)
        rw [msgA_0, z, nIeq (by omega) (by omega)] at z3
        have : t' = t := msgA_inj ht e2 (fun k hk2 b1 b2 => by rw [← e3.get0 b2, hk k (by omega) b1]) (by omega)
        rw [this]
    | succ d ih =>
      intro j hj hk
      refine w_f (fun h => by rw [a3] at h; have := (nIle (by omega) (by omega)).mp h; omega) (w_f (fun h => by rw [e40] at h; have := (nIle (by omega) (by omega)).mp h; omega) ?_)
      rw [gp_0_16 hG hp, np_50 hp, nIc (by omega), gp_50 hG hp hi, np_51 hp hi, gr_27_0 hG, nf_28, nIc (by omega)]
      refine ⟨vpn (by omega) (by omega), vpn (by omega) (by omega), vpn (by omega) (by omega), fun he z ez => ?_, fun hne => h0 (fun e => ?_)⟩
      · subst ez
        rw [nI_1]
        refine ih (j + 1) (by omega) (fun k hk1 hk2 => ?_)
        by_cases e : k = j
        · subst e; rw [he]; exact a5.get0 hk2
        · exact hk k (by omega) hk2
      · obtain ⟨q', e1, e2, e3⟩ := h.2 t e
        rw [hq] at e1
        have e1 := Option.some.inj e1
        subst e1
        exact hne ((e3.get0 (by omega)).trans (a5.get0 (by omega)).symm)
  exact ⟨_, key (msgA t q).length 0 (by omega) (fun k hk => by omega)⟩
theorem RTo.set {tol : Nat → Option (List Int32)} {τ : rs_Mem} {b : Nat} {o : Option (List Int32)} (h : RTo σ b pre tol) (f : Fr (fun u => u = b + 51 + i) σ τ) (g : RT1 τ b pre i o) : RTo τ b pre (upO tol i o) := fun k hk => by
  by_cases e : k = i
  · subst e; rw [upO_same]; exact g
  · rw [upO_ne e]; exact (h k hk).fp f.fp (by omega)
theorem P_Pe_announce {Q : Int32 → rs_Mem → Prop} (hG : Gr σ) (hp : p < 4) (hi : i < 12) (h : RPe σ (pb p) pre s) (hq : pre[i]? = some q) (hL : LD σ q (msgA t q)) (ht : t.length ≤ 33) (h1 : pTol s i = some t → Q 1 σ)
    (h0 : pTol s i ≠ some t → ∀ τ, RPe τ (pb p) pre (sendS (sTol s (upO (pTol s) i (some t))) (msgA t q)) → Fr (FPp p) σ τ → Gr τ → Q (b2i (decide (fitS s (msgA t q)))) τ) : F_Pe_announce NF (pb p) (nI i) 27 σ Q := by
  have hlen := msgA_len (t := t) (q := q)
  have hpb : 29 ≤ pb p := by unfold pb; omega
  refine P_Pe_isTold hG hp hi (h.2.2.2.2.2 i hi) hq hL ht (fun e => w_f (by decide) (h1 e)) (fun e => w_t rfl ?_)
  have e40 : (40 : Int32) = nI 40 := by decide
  have key : ∀ d j τ, j + d = (msgA t q).length → (∀ k (hk : k < j) (hk2 : k < (msgA t q).length), rs_I τ (pb p + 51 + i) k = (msgA t q)[k]) → Fr (fun u => u = pb p + 51 + i) σ τ → Gr τ → L_Pe_announce_13 NF Q (d + 1) (pb p) (nI i) 27 (nI j) τ := by
    intro d
    induction d with
    | zero =>
      intro j τ hj hk g2 g3
      refine w_t (by rw [g2.I (by omega), hL.2.2.1]; exact (nIle (by omega) (by omega)).mpr (by omega)) ?_
      have hLt : Ar τ 28 0 (msgA t q) := hL.2.2.2.2.fr g2 (by omega)
      have ho : RPe τ (pb p) pre (sTol s (upO (pTol s) i (some t))) := by
        refine h.sTo (g2.mono fun u z => by omega) (h.2.2.2.2.2.set g2 ⟨(fun z => by cases z), fun t' et => ?_⟩)
        cases et
        exact ⟨q, hq, ht, fun k hk2 => by rw [Nat.zero_add]; exact hk k (by omega) hk2⟩
      unfold B_Pe_announce_47
      rw [gr_27_0 g3, g2.I (by omega), hL.2.2.1]
      refine P_Pe_send g3 hp ho hLt (by rw [nf_28]; omega) (by rw [nf_28]; omega) (by omega) (by omega) (fun ρ t1 t2 t3 => ⟨?_, h0 e ρ t1 ((g2.mono fun u z => by unfold FPp; omega).tr t2) t3⟩)
      unfold b2i; split <;> decide
    | succ d ih =>
      intro j τ hj hk g2 g3
      refine w_f (fun h => by rw [g2.I (by omega), hL.2.2.1] at h; have := (nIle (by omega) (by omega)).mp h; omega) (w_f (fun h => by rw [e40] at h; have := (nIle (by omega) (by omega)).mp h; omega) ?_)
      rw [gp_0_16 g3 hp, np_50 hp, nIc (by omega), gp_50 g3 hp hi, np_51 hp hi, gr_27_0 g3, nf_28, nIc (by omega), g2.I (by omega), hL.2.2.2.2.get0 (by omega)]
      refine ⟨vpn (by omega) (by omega), vpn (by omega) (by omega), vpn (by omega) (by omega), fun σ2 e2 z ez => ?_⟩
      subst ez
      rw [nI_1]
      refine ih (j + 1) σ2 (by omega) (fun k hk1 hk2 => ?_) (by rw [e2]; exact g2.sI rfl) (e2 ▸ g3)
      rw [e2]
      by_cases e : k = j
      · subst e; exact I_same
      · rw [I_nk e]; exact hk k (by omega) hk2
  exact ⟨_, key (msgA t q).length 0 σ (by omega) (fun k hk => by omega) Fr.rf hG⟩
theorem P_Pe_withdraw {Q : Int32 → rs_Mem → Prop} (hG : Gr σ) (hp : p < 4) (hi : i < 12) (h : RPe σ (pb p) pre s) (hL : LQ σ q) (h1 : pTol s i = none → Q 1 σ)
    (h0 : pTol s i ≠ none → ∀ τ, RPe τ (pb p) pre (sendS (sTol s (upO (pTol s) i none)) (msgW q)) → Fr (fun u => FPp p u ∨ FrL u) σ τ → Gr τ → LQ τ q → Q (b2i (decide (fitS s (msgW q)))) τ) : F_Pe_withdraw NF (pb p) (nI i) 27 σ Q := by
  have hpb : 29 ≤ pb p := by unfold pb; omega
  have t0 : (0 : Int32).toNatClampNeg = 0 := by decide
  have hr := h.2.2.2.2.2 i hi
  unfold F_Pe_withdraw
  rw [gp_0_16 hG hp, np_50 hp, nIc (by omega), gp_50 hG hp hi, np_51 hp hi, t0]
  refine ⟨vpn (by omega) (by omega), vpl rfl, fun hz => ⟨vpn (by omega) (by omega), vpl rfl, fun σ1 e1 => ?_⟩, fun hz => h1 ?_⟩
  · have hne : pTol s i ≠ none := fun e => hz (hr.1 e)
    have f1 : Fr (fun u => u = pb p + 51 + i) σ σ1 := by rw [e1]; exact Fr.sI (A := fun u => u = pb p + 51 + i) Fr.rf rfl
    have hG1 : Gr σ1 := e1 ▸ hG
    have ho : RPe σ1 (pb p) pre (sTol s (upO (pTol s) i none)) := by
      refine h.sTo (f1.mono fun u z => by omega) (h.2.2.2.2.2.set f1 ⟨fun _ => by rw [e1]; exact I_same, fun t' et => by cases et⟩)
    have hL1 : LQ σ1 q := ⟨(f1.I (by omega) _).trans hL.1, (f1.I (by omega) _).trans hL.2⟩
    refine P_Le_writeWithdrawal hG1 hL1 (fun τ g1 g2 g3 => ?_)
    rw [gr_27_0 g3, g1.2.2.1]
    have ho2 := ho.fp g2.fp (fun u j z1 z2 => Or.inr (by unfold FrL; omega))
    refine P_Pe_send g3 hp ho2 g1.2.2.2.2 (by rw [nf_28]; exact g1.2.2.2.1) (by rw [nf_28]; omega) (by omega) (by omega) (fun ρ t1 t2 t3 => ⟨?_, h0 hne ρ t1 (((f1.mono fun u z => Or.inl (by unfold FPp; omega)).tr (g2.mono fun u z => Or.inr z)).tr (t2.mono fun u z => Or.inl z)) t3 ⟨(t2.I (by unfold FPp; omega) _).trans g1.1, (t2.I (by unfold FPp; omega) _).trans g1.2.1⟩⟩)
    unfold b2i; split <;> decide
  · cases ho : pTol s i with
    | none => rfl
    | some t' =>
      obtain ⟨q', e1, e2, e3⟩ := hr.2 t' ho
      have hlen' := msgA_len (t := t') (q := q')
      have z := e3.get0 (k := 0) (by omega)
      rw [msgA_0, hz] at z
      have z2 : nI 0 = nI (t'.length + 6) := by rw [nI_0]; exact z
      rw [nIeq (by omega) (by omega)] at z2
      omega
end TO
