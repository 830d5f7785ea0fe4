/-! tick -/
def passN : Nat → Ab → Ab
  | 0, a => a
  | k + 1, a => stPe (passN k a) k (passS (aPe (passN k a) k))
def decS (s : Ps) : Ps := sDmp (sPen (sInc s (pInc s)) (fun k => decP (pPen s k))) (fun k => dmpD (pDmp s k) (decP (pPen s k)))
def decN : Nat → Ab → Ab
  | 0, a => a
  | k + 1, a => stPe (decN k a) k (decS (aPe (decN k a) k))
def upN (a : Ab) : Nat → Nat
  | 0 => 0
  | k + 1 => upN a k + (if pSt (aPe a k) = 3 then 1 else 0)
def opTick (a : Ab) : Int32 × Ab := (nI (upN (tAll 5 (decN 4 (passN 4 a))) 4), tAll 5 (decN 4 (passN 4 a)))
theorem ht_Pad {s : Ps} {x : Int32} : pPad (sHt s x) = pPad s ∧ pPen (sHt s x) = pPen s := by refine ⟨?_, ?_⟩ <;> simp only [sHt, pPad, pPen]
theorem kt_Pad {s : Ps} {x : Int32} : pPad (sKt s x) = pPad s ∧ pPen (sKt s x) = pPen s := by refine ⟨?_, ?_⟩ <;> simp only [sKt, pPad, pPen]
theorem send_PP {s : Ps} {m : List Int32} : pPad (sendS s m) = pPad s ∧ pPen (sendS s m) = pPen s := ⟨cf_send.2.2.1, cf_send.2.2.2.2.2.2.1⟩
theorem close_PP {s : Ps} : pPad (closeS s) = pPad s ∧ pPen (closeS s) = pPen s := ⟨cl_Pad, cl_Pen⟩
theorem end_PP {s : Ps} {c d : Int32} : pPad (endS s c d) = pPad s ∧ pPen (endS s c d) = pPen s := ⟨close_PP.1.trans send_PP.1, close_PP.2.trans send_PP.2⟩
theorem pass_PP {s : Ps} : pPad (passS s) = pPad s ∧ pPen (passS s) = pPen s := by
  unfold passS
  split
  · exact ⟨rfl, rfl⟩
  · split
    · exact ⟨end_PP.1.trans ht_Pad.1, end_PP.2.trans ht_Pad.2⟩
    · split
      · exact ht_Pad
      · split
        · exact ⟨kt_Pad.1.trans ht_Pad.1, kt_Pad.2.trans ht_Pad.2⟩
        · exact ⟨send_PP.1.trans (kt_Pad.1.trans (kt_Pad.1.trans ht_Pad.1)), send_PP.2.trans (kt_Pad.2.trans (kt_Pad.2.trans ht_Pad.2))⟩
theorem passN_PP {a : Ab} : ∀ k q, pPad (aPe (passN k a) q) = pPad (aPe a q) ∧ pPen (aPe (passN k a) q) = pPen (aPe a q)
  | 0, _ => ⟨rfl, rfl⟩
  | k + 1, q => by
    have ih := passN_PP (a := a) k
    unfold passN
    by_cases e : q = k
    · subst e; rw [stPe_at]; exact ⟨pass_PP.1.trans (ih q).1, pass_PP.2.trans (ih q).2⟩
    · rw [stPe_ne e]; exact ih q
theorem dec_PP {s : Ps} : pPad (decS s) = pPad s := by simp only [decS, sDmp, sPen, sInc, pPad]
theorem decN_Pad {a : Ab} : ∀ k q, pPad (aPe (decN k a) q) = pPad (aPe a q)
  | 0, _ => rfl
  | k + 1, q => by
    have ih := decN_Pad (a := a) k
    unfold decN
    by_cases e : q = k
    · subst e; rw [stPe_at]; exact dec_PP.trans (ih q)
    · rw [stPe_ne e]; exact ih q
theorem decN_ne {a : Ab} : ∀ k q, k ≤ q → aPe (decN k a) q = aPe a q
  | 0, _, _ => rfl
  | k + 1, q, h => by
    unfold decN
    rw [stPe_ne (by omega)]
    exact decN_ne k q (by omega)
section TK
variable {μ σ : rs_Mem} {a : Ab} {Q : Int32 → rs_Mem → Prop}
theorem C_tick (h : CR μ σ a) (hpad : okPad a) (hn : ∀ p, p < 4 → nnS (aPe a p)) (kk : ∀ τ, CR μ τ (opTick a).2 → Q (opTick a).1 τ) : F_Sp_tick NF 1 σ Q := by
  have e4 : (4 : Int32) = nI 4 := by decide
  unfold opTick at kk
  generalize hP : passN 4 a = b at kk
  have hpb : okPad b := fun p hp => by rw [← hP, (passN_PP 4 p).1]; exact hpad p hp
  have hnb : ∀ p, p < 4 → nnS (aPe b p) := fun p hp => by unfold nnS; rw [← hP, (passN_PP 4 p).2]; exact hn p hp
  generalize hD : decN 4 b = c at kk
  have hpc : okPad c := fun p hp => by rw [← hD, decN_Pad 4 p]; exact hpb p hp
  generalize hT : tAll 5 c = f at kk
  have hul : ∀ k, upN f k ≤ k := fun k => by
    induction k with
    | zero => exact Nat.le_refl 0
    | succ k ih => unfold upN; split <;> omega
  have key3 : ∀ d k τ, k + d = 4 → CR μ τ f → L_Sp_tick_55 NF Q (d + 1) 1 (nI (upN f k)) (nI k) τ := by
    intro d
    induction d with
    | zero =>
      intro k τ hk hc
      have e : k = 4 := by omega
      subst e
      exact w_t (by decide) (kk τ hc)
    | succ d ih =>
      intro k τ hk hc
      have hk4 : k < 4 := by omega
      have hu := hul k
      refine w_f (fun h => by rw [e4, nIle (by omega) (by omega)] at h; omega) ?_
      rw [gr_1_1 hc.1, nf_6, nIc (by omega), gr_6 hc.1 hk4]
      have b78 : ∀ j : Nat, j = (if pSt (aPe f k) = 3 then 1 else 0) → B_Sp_tick_78 NF (L_Sp_tick_55 NF Q (d + 1)) Q 1 (nI k) (nI (upN f k)) (nI j) τ := fun j hj x ex y ey => by
        subst ey
        rw [nI_add] at ex
        subst ex
        rw [nI_1, hj]
        exact ih (k + 1) τ (by omega) hc
      refine ⟨vpn hk4 (by omega), P_Pe_isUp hc hk4 ⟨fun hz => ?_, fun hz => ?_⟩⟩
      · have hz : ¬ pSt (aPe f k) = 3 := of_decide_eq_false (b2i_ne.mp hz)
        have := b78 0 (by rw [if_neg hz])
        exact this
      · have hz : pSt (aPe f k) = 3 := by
          by_cases e : pSt (aPe f k) = 3
          · exact e
          · rw [decide_eq_false e] at hz; exact absurd rfl hz
        have := b78 1 (by rw [if_pos hz])
        exact this
  have key2 : ∀ d k τ, k + d = 4 → CR μ τ (decN k b) → L_Sp_tick_24 NF Q (d + 1) 1 (nI k) τ := by
    intro d
    induction d with
    | zero =>
      intro k τ hk hc
      have e : k = 4 := by omega
      subst e
      rw [hD] at hc
      refine w_t (by decide) (P_Sp_tellAll hc hpc (fun ρ r => ⟨_, key3 4 0 ρ rfl (by rw [hT] at r; exact r)⟩))
    | succ d ih =>
      intro k τ hk hc
      have hk4 : k < 4 := by omega
      refine w_f (fun h => by rw [e4, nIle (by omega) (by omega)] at h; omega) ?_
      rw [gr_1_1 hc.1, nf_6, nIc (by omega), gr_6 hc.1 hk4, gp_0_15 hc.1 hk4]
      have hs := hc.2.2.2 k hk4
      refine ⟨vpn hk4 (by omega), P_In_decay hc.1 hk4 hs.2.2.2.2.1 (by rw [decN_ne k k (Nat.le_refl k)]; exact hnb k hk4) (fun ρ r1 r2 r3 x ex => ?_)⟩
      subst ex
      rw [nI_1]
      refine ih (k + 1) ρ (by omega) ?_
      exact hc.fp (r2.mono fun u q => by unfold FPp; omega) r3 (hs.sIn (r2.mono fun u q => by omega) r1)
  have key : ∀ d k τ, k + d = 4 → CR μ τ (passN k a) → L_Sp_tick_2 NF Q (d + 1) 1 (nI k) τ := by
    intro d
    induction d with
    | zero =>
      intro k τ hk hc
      have e : k = 4 := by omega
      subst e
      rw [hP] at hc
      exact w_t (by decide) ⟨_, key2 4 0 τ rfl hc⟩
    | succ d ih =>
      intro k τ hk hc
      have hk4 : k < 4 := by omega
      refine w_f (fun h => by rw [e4, nIle (by omega) (by omega)] at h; omega) ?_
      rw [gr_1_1 hc.1, nf_6, nIc (by omega), gr_6 hc.1 hk4]
      refine ⟨vpn hk4 (by omega), P_Pe_passTime hc.1 hk4 (hc.2.2.2 k hk4) (fun ρ r1 r2 r3 x ex => ?_)⟩
      subst ex
      rw [nI_1]
      exact ih (k + 1) ρ (by omega) (hc.fp r2 r3 r1)
  exact ⟨_, key 4 0 σ rfl h⟩
end TK
