/-! faultOf -/
def fltU (m : Nat → Nat) (n : Nat) (ext : Bool) (net : Int32) : Int32 :=
  if frmU m n then
    (if attF m [] ((psU m).getD []) ≠ 0 then attF m [] ((psU m).getD [])
     else if anU m n ≠ 0 ∧ annF m ((psU m).getD []) ext net ≠ 0 then annF m ((psU m).getD []) ext net
     else if pfOK m 3 (m 2) ∧ pfOK m (toU m) (anU m n) then 0 else 10)
  else 1
def rtX (m : Nat → Nat) (ext : Bool) : Rt := if ext = true then dropR (rtU m ((psU m).getD [])) else rtU m ((psU m).getD [])
theorem attFlt_nz {m : Nat → Nat} : True := trivial
section FO
variable {σ : rs_Mem} {v n : Nat} {m : Nat → Nat}
theorem P_Up_clear {Q : rs_Mem → Prop} (hG : Gr σ) (kk : ∀ τ, Sn τ m [] → RRt τ 11 (rtU m []) → Fr FrV σ τ → (∀ u j, rs_R τ u j = rs_R σ u j) → Q τ) : F_Up_clear NF 10 σ Q := by
  unfold F_Up_clear
  rw [gr_10_0 hG]
  refine P_Ro_clear (fun τ0 g1 g2 g3 => ?_)
  have hG0 := Gr_of hG g3
  have key : ∀ d i τ, i + d = 256 → (∀ x, x < i → rs_I τ 14 x = 0) → RRt τ 11 (rtU m []) → Fr FrV σ τ → (∀ u j, rs_R τ u j = rs_R σ u j) → L_Up_clear_9 NF Q (d + 1) 10 (nI i) τ := by
    intro d
    induction d with
    | zero =>
      intro i τ hi h1 h2 h3 h4
      have e : i = 256 := by omega
      subst e
      have hGt := Gr_of hG h4
      refine w_t ?_ (kk τ (fun x hx => by rw [h1 x hx]; simp; rfl) h2 h3 h4)
      rw [gr_10_1 hGt, nf_14]
      decide
    | succ d ih =>
      intro i τ hi h1 h2 h3 h4
      have hGt := Gr_of hG h4
      refine w_f (fun h => by rw [gr_10_1 hGt, nf_14, nIle (by omega) (by omega)] at h; omega) ?_
      rw [gr_10_1 hGt, nf_14, nIc (by omega)]
      refine ⟨vpn (by omega) (by omega), fun σ1 e1 x ex => ?_⟩
      subst ex
      rw [nI_1]
      have f1 : Fr (fun u => u = 14) τ σ1 := by rw [e1]; exact Fr.sI (A := fun u => u = 14) Fr.rf rfl
      refine ih (i + 1) σ1 (by omega) (fun x hx => ?_) (h2.fr f1 (by omega) (by omega) (by omega)) (h3.tr (f1.mono fun u z => by unfold FrV; omega)) (fun u j => by rw [e1]; exact h4 u j)
      rw [e1]
      by_cases e : x = i
      · subst e; exact I_same
      · rw [I_nk e]; exact h1 x (by omega)
  exact ⟨_, key 256 0 τ0 rfl (fun x hx => by omega) g1 (g2.mono fun u z => by unfold FrV; omega) g3⟩
theorem P_att_loop {ext : Bool} {net F : Int32} {psA : List Nat} {Q : Int32 → rs_Mem → Prop} (hG : Gr σ) (hM : Ms σ v n m) (hC : Cn σ n m) (hto : toU m ≤ n)
    (hB : ∀ τ, (F = 0 → Sn τ m psA ∧ RRt τ 11 (rtU m psA)) → Fr FrV σ τ → (∀ u j, rs_R τ u j = rs_R σ u j) → B_Up_faultOf_93 NF Q 10 (b2i ext) net F τ) :
    ∀ f i ps dn τ, tlv m f i (toU m) = some ps → attF m dn ps = F → dn ++ ps = psA → Sn τ m dn → RRt τ 11 (rtU m dn) → Fr FrV σ τ → (∀ u j, rs_R τ u j = rs_R σ u j) → L_Up_faultOf_32 NF Q (f + 1) 10 (b2i ext) net 0 (nI i) τ := by
  intro f
  induction f with
  | zero => intro i ps dn τ h; cases h
  | succ f ih =>
    intro i ps dn τ ht hF hA hS hr hf hR
    have hGt := Gr_of hG hR
    have hC' := hC.fr hf (by unfold FrV; omega)
    have hM' : Ms τ v n m := hM.fr hf (by unfold FrV; have := hM.2.1; omega) (hR _ _)
    have hM2 := hM'
    obtain ⟨m1, m2, m3, m4, m5⟩ := hM2
    have h7 := hC'.2.2.2
    unfold tlv at ht
    by_cases hi : i = toU m
    · rw [if_pos hi] at ht
      have e := (Option.some.inj ht).symm
      subst e
      have e0 : F = 0 := hF.symm
      subst e0
      rw [List.append_nil] at hA
      subst hA
      refine w_t ?_ (hB τ (fun _ => ⟨hS, hr⟩) hf hR)
      rw [h7, nI_1, hi]
      exact (nIle (by omega) (by omega)).mpr (by omega)
    · rw [if_neg hi] at ht
      by_cases hl : i + 2 + m (i + 1) ≤ toU m
      · rw [if_pos hl] at ht
        cases htt : tlv m f (i + 2 + m (i + 1)) (toU m) with
        | none => rw [htt] at ht; cases ht
        | some t =>
          rw [htt] at ht
          have e : ps = i :: t := (Option.some.inj ht).symm
          subst e
          have h2i : (2 : Int32) = nI 2 := by decide
          refine w_f (fun h => by rw [h7, nI_1] at h; have := (nIle (by omega) (by omega)).mp h; omega) (v_t rfl ?_)
          rw [nI_1, h2i, nI_add, m1, m3, nIc (n := i) (by omega), nIc (n := i + 1) (by omega), (m5 i (by omega)).1, (m5 (i + 1) (by omega)).1]
          have hF2 : (if attFlt m dn i ≠ 0 then attFlt m dn i else attF m (dn ++ [i]) t) = F := hF
          have en : i + (2 + m (i + 1)) = i + 2 + m (i + 1) := by omega
          have hb1 := (m5 (i + 1) (by omega)).2
          have nxt : ∀ ρ : rs_Mem, Fr FrV σ ρ → (∀ u j, rs_R ρ u j = rs_R σ u j) → rs_I ρ (rs_R ρ 10 2) (i + 1) = nI (m (i + 1)) := fun ρ q1 q2 => by
            have hM3 : Ms ρ v n m := hM.fr q1 (by unfold FrV; omega) (q2 _ _)
            rw [hM3.1]; exact (hM3.2.2.2.2 (i + 1) (by omega)).1
          refine ⟨vpn (by omega) (by omega), vpn (by omega) (by omega), P_Up_attributeFault hGt hM' hS hr (by omega) (fun h0 ρ r1 r2 r3 r4 => ?_) (fun h0 ρ r3 r4 => ?_)⟩
          · have q1 := hf.tr r3
            have q2 : ∀ u j, rs_R ρ u j = rs_R σ u j := fun u j => (r4 u j).trans (hR u j)
            rw [nxt ρ q1 q2, q2, hM.1, m3]
            refine ⟨vpn (by omega) (by omega), fun x ex => ?_⟩
            rw [nI_add, nI_add, en] at ex
            subst ex
            rw [if_neg (fun z => z h0)] at hF2
            exact ih (i + 2 + m (i + 1)) t (dn ++ [i]) ρ htt hF2 (by rw [← hA]; simp) r1 r2 q1 q2
          · have q1 := hf.tr r3
            have q2 : ∀ u j, rs_R ρ u j = rs_R σ u j := fun u j => (r4 u j).trans (hR u j)
            rw [nxt ρ q1 q2, q2, hM.1, m3]
            refine ⟨vpn (by omega) (by omega), fun x ex => ?_⟩
            rw [if_pos h0] at hF2
            rw [hF2]
            have hb := hB ρ (fun z => absurd (hF2.trans z) h0) q1 q2
            cases f with
            | zero => cases htt
            | succ f => exact ⟨fun _ => hb, fun _ => ⟨fun _ => hb, fun z => absurd (hF2.trans z) h0⟩⟩
      · rw [if_neg hl] at ht; cases ht
theorem P_Up_faultOf {ext : Bool} {net : Int32} {Q : Int32 → rs_Mem → Prop} (hG : Gr σ) (hv : 28 < v) (hNv : NF v = 60) (hn : n ≤ 60) (hn3 : 3 ≤ n) (hm : Mg σ v n m)
    (kk : ∀ τ, (fltU m n ext net = 0 → frmU m n ∧ Cn τ n m ∧ RRt τ 11 (rtX m ext)) → rs_R τ 10 2 = v → Fr FrU σ τ → Gr τ → Q (fltU m n ext net) τ) : F_Up_faultOf NF 10 v (nI n) (b2i ext) net σ Q := by
  intro σ1 e1 σ2 e2
  have hG2 : Gr σ2 := by rw [e2, e1]; exact Gr_I (Gr_R hG)
  have f2 : Fr (fun u => u = 10) σ σ2 := by rw [e2, e1]; exact Fr.sI (A := fun u => u = 10) (Fr.sR (A := fun u => u = 10) Fr.rf rfl) rfl
  have r2 : rs_R σ2 10 2 = v := by rw [e2, e1]; exact rs_Rsame ⟨rfl, rfl⟩
  have b3 : rs_I σ2 10 3 = nI n := by rw [e2]; exact I_same
  have hM2 : Ms σ2 v n m := ⟨r2, hv, hNv, hn, hm.fr f2 (by omega)⟩
  refine P_Up_clear (m := m) hG2 (fun τ c1 c2 c3 c4 => ?_)
  have hGt := Gr_of hG2 c4
  have hMt : Ms τ v n m := hM2.fr c3 (by unfold FrV; omega) (c4 _ _)
  have b3t : rs_I τ 10 3 = nI n := (c3.I (by unfold FrV; omega) _).trans b3
  have fu : Fr FrU σ τ := (f2.mono fun u z => by unfold FrU; omega).tr (c3.mono fun u z => by unfold FrU; unfold FrV at z; omega)
  refine P_Up_isFramed hGt hMt b3t hn3 (fun hfr ρ d1 d2 d3 => ?_) (fun hfr ρ d2 d3 => ?_)
  · have hGr := Gr_of hGt d3
    have hMr : Ms ρ v n m := hMt.fr d2 (by omega) (d3 _ _)
    have fr : Fr FrU σ ρ := fu.tr (d2.mono fun u z => by unfold FrU; omega)
    obtain ⟨ps, hps⟩ : ∃ ps, psU m = some ps := Option.isSome_iff_exists.mp hfr.2.2.2
    have hpg : (psU m).getD [] = ps := by rw [hps]; rfl
    have hFl : fltU m n ext net = if attF m [] ps ≠ 0 then attF m [] ps else if anU m n ≠ 0 ∧ annF m ps ext net ≠ 0 then annF m ps ext net else if pfOK m 3 (m 2) ∧ pfOK m (toU m) (anU m n) then 0 else 10 := by
      unfold fltU; rw [if_pos hfr, hpg]
    refine v_f (by decide) (fun x ex => ?_)
    rw [d1.2.2.1] at ex
    subst ex
    have b130 : ∀ π, (fltU m n ext net = 0 → RRt π 11 (rtU m ps)) → Fr FrV ρ π → (∀ u j, rs_R π u j = rs_R ρ u j) → B_Up_faultOf_130 NF Q 10 (b2i ext) (fltU m n ext net) π := fun π p1 p2 p3 => by
      have hGp := Gr_of hGr p3
      have hCp := d1.fr p2 (by unfold FrV; omega)
      have rp : rs_R π 10 2 = v := (p3 _ _).trans hMr.1
      have fp : Fr FrU σ π := fr.tr (p2.mono fun u z => by unfold FrU; unfold FrV at z; omega)
      cases ext with
      | false =>
        refine w_t rfl (kk π (fun z => ⟨hfr, hCp, ?_⟩) rp fp hGp)
        unfold rtX; rw [if_neg (by decide), hpg]; exact p1 z
      | true =>
        unfold B_Up_faultOf_130
        rw [gr_10_0 hGp]
        refine w_f (by decide) ?_
        by_cases hz : fltU m n true net = 0
        · refine P_Ro_dropInner (p1 hz) (fun θ t1 t2 t3 => kk θ (fun _ => ⟨hfr, hCp.fr t2 (by omega), ?_⟩) ((t3 _ _).trans rp) (fp.tr (t2.mono fun u z => by unfold FrU; omega)) (Gr_of hGp t3))
          unfold rtX; rw [if_pos rfl, hpg]; exact t1
        · exact P_Ro_dropInnerF (fun θ t2 t3 => kk θ (fun z => absurd z hz) ((t3 _ _).trans rp) (fp.tr (t2.mono fun u z => by unfold FrU; omega)) (Gr_of hGp t3))
    refine ⟨65, P_att_loop (F := attF m [] ps) (psA := ps) hGr hMr d1 hfr.2.1 (fun π p1 p2 p3 => ?_) 64 (frU m) ps [] ρ hps rfl rfl (c1.fr d2 (by omega)) (c2.fr d2 (by omega) (by omega) (by omega)) Fr.rf (fun _ _ => rfl)⟩
    have hGp := Gr_of hGr p3
    have hMp : Ms π v n m := hMr.fr p2 (by unfold FrV; omega) (p3 _ _)
    have hCp := d1.fr p2 (by unfold FrV; omega)
    by_cases h0 : attF m [] ps = 0
    · obtain ⟨q1, q2⟩ := p1 h0
      rw [if_neg (fun z => z h0)] at hFl
      rw [h0]
      have b114 : ¬ (anU m n ≠ 0 ∧ annF m ps ext net ≠ 0) → B_Up_faultOf_114 NF Q 10 (b2i ext) 0 π := fun hc => by
        rw [if_neg hc] at hFl
        refine v_t rfl (P_Up_hasOnlyPrefixes hMp hCp hfr (fun hk => ?_) (fun hk => ?_))
        · rw [if_pos hk] at hFl
          rw [hFl] at b130
          exact v_f (by decide) (b130 π (fun _ => q2) p2 p3)
        · rw [if_neg hk] at hFl
          rw [hFl] at b130
          exact v_t rfl (b130 π (fun z => absurd z (by decide)) p2 p3)
      refine v_t rfl ⟨fun hz => b114 (fun z => ?_), fun hz => ?_⟩
      · rw [hCp.2.1] at hz
        have i0 : (0 : Int32) = nI 0 := by decide
        have hle : anU m n ≤ n := by unfold anU; omega
        rw [i0, nIle (by omega) (by omega)] at hz
        omega
      · have hne : anU m n ≠ 0 := fun z => hz (by rw [hCp.2.1, z]; decide)
        refine P_Up_announcementFault hGp q1 q2 ?_
        by_cases hA : annF m ps ext net = 0
        · rw [hA]; exact b114 (fun z => z.2 hA)
        · rw [if_pos ⟨hne, hA⟩] at hFl
          rw [← hFl]
          rw [← hFl] at hA
          exact v_f hA (b130 π (fun z => absurd z hA) p2 p3)
    · rw [if_pos h0] at hFl
      rw [← hFl]
      rw [← hFl] at h0
      exact v_f h0 (v_f h0 (b130 π (fun z => absurd z h0) p2 p3))
  · have hFl : fltU m n ext net = 1 := by unfold fltU; rw [if_neg hfr]
    rw [hFl] at kk
    exact v_t rfl (kk ρ (fun z => absurd z (by decide)) ((d3 _ _).trans hMt.1) (fu.tr (d2.mono fun u z => by unfold FrU; omega)) (Gr_of hGt d3))
end FO
