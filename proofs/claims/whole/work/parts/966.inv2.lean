/-! what always holds, behind a message and behind the calls -/
def AJ (a : Ab) : Prop := AInv a ∧ (aPre a).length ≤ 12
section I2
variable {a b : Ab} {s t : Ps} {p k n : Nat} {m : Nat → Nat}
theorem AJ_tAll (h : AI0 a) (hl : (aPre a).length ≤ 12) : AJ (tAll 5 a) := ⟨AInv_tAll h, by rw [(cfA_tAll 5 a).1]; exact hl⟩
theorem okS_in {f : Nat → Option Rt} {g : Nat → UInt64} {d : Nat → Bool} (h : okS s) (hg : ∀ k, k < 12 → vf_n64 (g k)) (hf : ∀ k rt, f k = some rt → okRt rt ∧ (pRole s = 0 → rtP rt = 100)) (h3 : pSt s ≠ 3 → ∀ k, f k = none) : okS (sDmp (sPen (sInc s f) g) d) := by
  refine ⟨?_, okT_of h.2.1 gi_Ho gi_St gi_Ht gi_Kt gi_Id, okI_of h.2.2.1 gi_Inb, okO_of h.2.2.2.1 gi_Out, ?_⟩
  · unfold okC nnS
    rw [gi_Pad, gi_Ml, gi_Ma, gi_Rul, gi_Pen, gi_Net]
    exact ⟨h.1.1, h.1.2.1, h.1.2.2.1, hg, h.1.2.2.2.2⟩
  · unfold okR
    rw [gi_Inc, gi_St, gi_Role]
    exact ⟨h3, hf⟩
theorem okS_wdK (h : okS s) (hk : k < 12) : okS (wdK s k) := by
  have hn := nn_wd h.1.2.2.2.1 hk
  unfold nnS at hn
  rw [wd_inc.2.1] at hn
  unfold wdK
  refine okS_in h hn (fun j rt hj => ?_) (fun z j => ?_)
  · unfold upO at hj
    split at hj
    · cases hj
    · exact h.2.2.2.2.2 j rt hj
  · unfold upO
    split
    · rfl
    · exact h.2.2.2.2.1 z j
theorem okS_anK {r : Rt} (h : okS s) (hk : k < 12) (h3 : pSt s = 3) (hr : okRt r) (hr0 : pRole s = 0 → rtP r = 100) : okS (anK s k r) := by
  have hn := nn_an (r := r) h.1.2.2.2.1 hk
  unfold nnS at hn
  rw [an_inc.2.1] at hn
  unfold anK
  refine okS_in h hn (fun j rt hj => ?_) (fun z => absurd h3 z)
  unfold upO at hj
  split at hj
  · cases hj; exact ⟨hr, hr0⟩
  · exact h.2.2.2.2.2 j rt hj
theorem wdQ_St {pre : List (Int32 × Int32)} {q : Int32 × Int32} : pSt (wdQ pre s q) = pSt s := by
  unfold wdQ; split
  · exact gi_St
  · rfl
theorem anQ_St {r : Rt} {w : List (Int32 × Int32) × Ps} {q : Int32 × Int32} : pSt (anQ r w q).2 = pSt w.2 := by
  unfold anQ; split
  · exact gi_St
  · split
    · exact gi_St
    · rfl
theorem fold_wd {pre : List (Int32 × Int32)} (hl : pre.length ≤ 12) : ∀ (l : List (Int32 × Int32)) (s : Ps), okS s → okS (l.foldl (wdQ pre) s) ∧ pSt (l.foldl (wdQ pre) s) = pSt s ∧ pRole (l.foldl (wdQ pre) s) = pRole s
  | [], s, h => ⟨h, rfl, rfl⟩
  | q :: t, s, h => by
    have h1 : okS (wdQ pre s q) := by
      unfold wdQ
      split
      · rename_i hm
        exact okS_wdK h (by have := mem_lt hm; omega)
      · exact h
    obtain ⟨g1, g2, g3⟩ := fold_wd hl t _ h1
    exact ⟨g1, g2.trans wdQ_St, g3.trans wdQ_Role⟩
theorem fold_an {r : Rt} (hr : okRt r) : ∀ (l : List (Int32 × Int32)) (w : List (Int32 × Int32) × Ps), okS w.2 → pSt w.2 = 3 → (pRole w.2 = 0 → rtP r = 100) → w.1.length ≤ 12 → wfP w.1 → (∀ q ∈ l, isPfx q.1 q.2) →
    okS (l.foldl (anQ r) w).2 ∧ (l.foldl (anQ r) w).1.length ≤ 12 ∧ wfP (l.foldl (anQ r) w).1 ∧ w.1.length ≤ (l.foldl (anQ r) w).1.length
  | [], w, h, _, _, h4, h5, _ => ⟨h, h4, h5, Nat.le_refl _⟩
  | q :: t, w, h, h2, h3, h4, h5, h6 => by
    have hq := h6 q (List.mem_cons_self ..)
    have h1 : okS (anQ r w q).2 ∧ wfP (anQ r w q).1 ∧ w.1.length ≤ (anQ r w q).1.length := by
      unfold anQ
      split
      · rename_i hm
        exact ⟨okS_anK h (by have := mem_lt hm; omega) h2 hr h3, h5, Nat.le_refl _⟩
      · split
        · rename_i hlt
          refine ⟨okS_anK h hlt h2 hr h3, fun x hx => ?_, ?_⟩
          · rcases List.mem_append.mp hx with z | z
            · exact h5 x z
            · rw [List.mem_singleton.mp z]; exact hq
          · show w.1.length ≤ (w.1 ++ [q]).length
            rw [List.length_append]; omega
        · exact ⟨h, h5, Nat.le_refl _⟩
    obtain ⟨g1, g2, g3, g4⟩ := fold_an hr t (anQ r w q) h1.1 (anQ_St.trans h2) (fun z => h3 (anQ_Role ▸ z)) (an_len h4) h1.2.1 (fun x hx => h6 x (List.mem_cons_of_mem _ hx))
    exact ⟨g1, g2, g3, Nat.le_trans h1.2.2 g4⟩
theorem fltU_0 {ext : Bool} {net : Int32} (h : fltU m n ext net = 0) : frmU m n ∧ attF m [] ((psU m).getD []) = 0 ∧ pfOK m 3 (m 2) ∧ pfOK m (toU m) (anU m n) := by
  unfold fltU at h
  by_cases h1 : frmU m n
  · rw [if_pos h1] at h
    by_cases h2 : attF m [] ((psU m).getD []) = 0
    · rw [if_neg (fun z => z h2)] at h
      by_cases h3 : anU m n ≠ 0 ∧ annF m ((psU m).getD []) ext net ≠ 0
      · rw [if_pos h3] at h; exact absurd h h3.2
      · rw [if_neg h3] at h
        by_cases h4 : pfOK m 3 (m 2) ∧ pfOK m (toU m) (anU m n)
        · exact ⟨h1, h2, h4.1, h4.2⟩
        · rw [if_neg h4] at h; exact absurd h (by decide)
    · rw [if_pos h2] at h; exact absurd h h2
  · rw [if_neg h1] at h; exact absurd h (by decide)
theorem okRt_rtX {ext : Bool} {net : Int32} (hm : ∀ k, m k < 256) (h : fltU m n ext net = 0) : okRt (rtX m ext) ∧ (ext = true → rtP (rtX m ext) = 100) := by
  obtain ⟨hf, ha, -, -⟩ := fltU_0 h
  obtain ⟨ps, hps⟩ : ∃ ps, psU m = some ps := Option.isSome_iff_exists.mp hf.2.2.2
  rw [show (psU m).getD [] = ps by rw [hps]; rfl] at ha
  have hVA := VA_of hps ha hf.2.1
  have hv : ∀ x d, (0 : Int32) ≤ d → (0 : Int32) ≤ vlU m ps x d := fun x d hd => by
    unfold vlU
    split
    · exact hd
    · exact nn_nI (by have := hm (‹Nat› + 2); omega)
  have hvm : vlU m ps 4 (-1) = -1 ∨ (0 : Int32) ≤ vlU m ps 4 (-1) := by
    unfold vlU
    split
    · exact Or.inl rfl
    · exact Or.inr (nn_nI (by have := hm (‹Nat› + 2); omega))
  have hl : ∀ x, ∀ y ∈ lsU m ps x, (0 : Int32) ≤ y := fun x y hy => by
    unfold lsU at hy
    cases hq : fnd1 m ps x with
    | none => rw [hq] at hy; cases hy
    | some i =>
      rw [hq] at hy
      have hy : y ∈ sl m (i + 2) (m (i + 1)) := hy
      unfold sl at hy
      obtain ⟨j, -, rfl⟩ := List.mem_map.mp hy
      exact nn_nI (by have := hm (i + 2 + j); omega)
  have hl8 : (lsU m ps 2).length ≤ 8 := by
    unfold lsU
    cases hq : fnd1 m ps 2 with
    | none => exact Nat.zero_le _
    | some i => show (sl m (i + 2) (m (i + 1))).length ≤ 8; rw [sl_len]; exact (VA_lst hVA (Or.inl rfl) hq).2
  have hU : okRt (rtU m ps) := ⟨hv 1 0 (by decide), hv 3 0 (by decide), hvm, hv 5 100 (by decide), hv 9 0 (by decide), hl 2, hl 10, hl8⟩
  unfold rtX
  rw [show (psU m).getD [] = ps by rw [hps]; rfl]
  cases ext with
  | true =>
    rw [if_pos rfl]
    exact ⟨⟨hU.1, hU.2.1, hU.2.2.1, (show (0 : Int32) ≤ 100 by decide), (show (0 : Int32) ≤ 0 by decide), hU.2.2.2.2.2.1, (fun x hx => by cases hx), hl8⟩, fun _ => rfl⟩
  | false =>
    rw [if_neg (by decide)]
    exact ⟨hU, fun z => by cases z⟩
theorem okS_Ht {v : Int32} (h : okS s) (h1 : pSt s = 1 → 0 < v) (h2 : pSt s ≠ 0 → pHo s ≠ 0 → 0 < v) : okS (sHt s v) := by
  refine ⟨okC_of h.1 (by simp only [pPad, sHt]) (by simp only [pMl, sHt]) (by simp only [pMa, sHt]) (by simp only [pRul, sHt]) (by simp only [pPen, sHt]) (by simp only [pNet, sHt]), ?_, okI_of h.2.2.1 (by simp only [pInb, sHt]), okO_of h.2.2.2.1 (by simp only [pOut, sHt]), okR_of h.2.2.2.2 (by simp only [pInc, sHt]) (by simp only [pRole, sHt]) ?_⟩
  · have e1 : pHt (sHt s v) = v := by simp only [pHt, sHt]
    have e2 : pHo (sHt s v) = pHo s := by simp only [pHo, sHt]
    have e3 : pSt (sHt s v) = pSt s := by simp only [pSt, sHt]
    have e4 : pKt (sHt s v) = pKt s := by simp only [pKt, sHt]
    have e5 : pId (sHt s v) = pId s := by simp only [pId, sHt]
    unfold okT
    rw [e1, e2, e3, e4, e5]
    exact ⟨h.2.1.1, h1, h2, h.2.1.2.2.2⟩
  · have e3 : pSt (sHt s v) = pSt s := by simp only [pSt, sHt]
    rw [e3]; exact h.2.2.2.2.1
theorem okS_Kt {v : Int32} (h : okS s) (h2 : pSt s = 3 → pHo s ≠ 0 → 0 < v) : okS (sKt s v) := by
  refine ⟨okC_of h.1 (by simp only [pPad, sKt]) (by simp only [pMl, sKt]) (by simp only [pMa, sKt]) (by simp only [pRul, sKt]) (by simp only [pPen, sKt]) (by simp only [pNet, sKt]), ?_, okI_of h.2.2.1 (by simp only [pInb, sKt]), okO_of h.2.2.2.1 (by simp only [pOut, sKt]), okR_of h.2.2.2.2 (by simp only [pInc, sKt]) (by simp only [pRole, sKt]) ?_⟩
  · have e1 : pHt (sKt s v) = pHt s := by simp only [pHt, sKt]
    have e2 : pHo (sKt s v) = pHo s := by simp only [pHo, sKt]
    have e3 : pSt (sKt s v) = pSt s := by simp only [pSt, sKt]
    have e4 : pKt (sKt s v) = v := by simp only [pKt, sKt]
    have e5 : pId (sKt s v) = pId s := by simp only [pId, sKt]
    unfold okT
    rw [e1, e2, e3, e4, e5]
    exact ⟨h.2.1.1, h.2.1.2.1, h.2.1.2.2.1, h2, h.2.1.2.2.2.2⟩
  · have e3 : pSt (sKt s v) = pSt s := by simp only [pSt, sKt]
    rw [e3]; exact h.2.2.2.2.1
theorem okS_Inb {l : List Int32} (h : okS s) (hl : okI (sInb s l)) : okS (sInb s l) := by
  have e3 : pSt (sInb s l) = pSt s := by simp only [pSt, sInb]
  exact ⟨okC_of h.1 (by simp only [pPad, sInb]) (by simp only [pMl, sInb]) (by simp only [pMa, sInb]) (by simp only [pRul, sInb]) (by simp only [pPen, sInb]) (by simp only [pNet, sInb]), okT_of h.2.1 (by simp only [pHo, sInb]) e3 (by simp only [pHt, sInb]) (by simp only [pKt, sInb]) (by simp only [pId, sInb]), hl, okO_of h.2.2.2.1 (by simp only [pOut, sInb]), okR_of h.2.2.2.2 (by simp only [pInc, sInb]) (by simp only [pRole, sInb]) (by rw [e3]; exact h.2.2.2.2.1)⟩
theorem okS_sent {ty : Int32} (h : okS s) (h1 : pSt s = 1) (hm : ∀ k, m k < 256) : okS (sentS s m ty) := by
  unfold sentS
  split
  · exact okS_end h (by decide) (by decide)
  · split
    · exact okS_end h (by decide) (by decide)
    · split
      · exact okS_end h (by decide) (by decide)
      · split
        · exact okS_end h (by decide) (by decide)
        · split
          · exact okS_end h (by decide) (by decide)
          · rename_i hno
            have hmin : min (m 4) 9 ≤ 9 ∧ min (m 4) 9 ≠ 1 ∧ min (m 4) 9 ≠ 2 := by
              rcases Nat.le_total (m 4) 9 with z | z
              · rw [Nat.min_eq_left z]; omega
              · rw [Nat.min_eq_right z]; omega
            generalize hH : min (m 4) 9 = H at hmin
            have hm5 := hm 5
            refine okS_send ?_ (fun y hy => by simp only [List.mem_cons, List.not_mem_nil, or_false] at hy; rcases hy with rfl | rfl <;> decide)
            have hpos : nI H ≠ 0 → 0 < nI H := fun z => pos_nI (by omega) (by
              by_cases e : H = 0
              · rw [e] at z; exact absurd (by decide) z
              · omega)
            have hno := h.2.2.2.2.1 (by rw [h1]; decide)
            refine ⟨okC_of h.1 (by simp only [pPad, sId, sHo, sHt, sSt]) (by simp only [pMl, sId, sHo, sHt, sSt]) (by simp only [pMa, sId, sHo, sHt, sSt]) (by simp only [pRul, sId, sHo, sHt, sSt]) (by simp only [pPen, sId, sHo, sHt, sSt]) (by simp only [pNet, sId, sHo, sHt, sSt]), ?_, okI_of h.2.2.1 (by simp only [pInb, sId, sHo, sHt, sSt]), okO_of h.2.2.2.1 (by simp only [pOut, sId, sHo, sHt, sSt]), okR_of h.2.2.2.2 (by simp only [pInc, sId, sHo, sHt, sSt]) (by simp only [pRole, sId, sHo, sHt, sSt]) (fun _ => hno)⟩
            have e1 : pHt (sHt (sSt (sId (sHo s (nI H)) (nI (m 5))) 2) (nI H)) = nI H := by simp only [pHt, sId, sHo, sHt, sSt]
            have e2 : pHo (sHt (sSt (sId (sHo s (nI H)) (nI (m 5))) 2) (nI H)) = nI H := by simp only [pHo, sId, sHo, sHt, sSt]
            have e3 : pSt (sHt (sSt (sId (sHo s (nI H)) (nI (m 5))) 2) (nI H)) = 2 := by simp only [pSt, sId, sHo, sHt, sSt]
            have e5 : pId (sHt (sSt (sId (sHo s (nI H)) (nI (m 5))) 2) (nI H)) = nI (m 5) := by simp only [pId, sId, sHo, sHt, sSt]
            unfold okT
            rw [e1, e2, e3, e5]
            exact ⟨⟨H, hmin.1, hmin.2.1, hmin.2.2, rfl⟩, fun z => absurd z (by decide), fun _ => hpos, fun z => absurd z (by decide), nn_nI (by omega), by decide⟩
theorem okS_agr {ty : Int32} (h : okS s) (h2 : pSt s = 2) : okS (agrS s ty) := by
  unfold agrS
  split
  · have hno := h.2.2.2.2.1 (by rw [h2]; decide)
    refine ⟨okC_of h.1 (by simp only [pPad, sKt, sHt, sSt]) (by simp only [pMl, sKt, sHt, sSt]) (by simp only [pMa, sKt, sHt, sSt]) (by simp only [pRul, sKt, sHt, sSt]) (by simp only [pPen, sKt, sHt, sSt]) (by simp only [pNet, sKt, sHt, sSt]), ?_, okI_of h.2.2.1 (by simp only [pInb, sKt, sHt, sSt]), okO_of h.2.2.2.1 (by simp only [pOut, sKt, sHt, sSt]), okR_of h.2.2.2.2 (by simp only [pInc, sKt, sHt, sSt]) (by simp only [pRole, sKt, sHt, sSt]) (fun _ => hno)⟩
    have e1 : pHt (sKt (sHt (sSt s 3) (pHo s)) (pHo s / 3)) = pHo s := by simp only [pHt, sKt, sHt, sSt]
    have e2 : pHo (sKt (sHt (sSt s 3) (pHo s)) (pHo s / 3)) = pHo s := by simp only [pHo, sKt, sHt, sSt]
    have e3 : pSt (sKt (sHt (sSt s 3) (pHo s)) (pHo s / 3)) = 3 := by simp only [pSt, sKt, sHt, sSt]
    have e4 : pKt (sKt (sHt (sSt s 3) (pHo s)) (pHo s / 3)) = pHo s / 3 := by simp only [pKt, sKt, sHt, sSt]
    have e5 : pId (sKt (sHt (sSt s 3) (pHo s)) (pHo s / 3)) = pId s := by simp only [pId, sKt, sHt, sSt]
    unfold okT
    rw [e1, e2, e3, e4, e5]
    obtain ⟨H, q1, q2, q3, q4⟩ := h.2.1.1
    have hd : pHo s ≠ 0 → 0 < pHo s ∧ 0 < pHo s / 3 := fun z => by
      rw [q4] at z ⊢
      exact (by decide +kernel : ∀ H, H ≤ 9 → H ≠ 1 → H ≠ 2 → nI H ≠ 0 → 0 < nI H ∧ 0 < nI H / 3) H q1 q2 q3 z
    exact ⟨h.2.1.1, fun z => absurd z (by decide), fun _ z => (hd z).1, fun _ z => (hd z).2, h.2.1.2.2.2.2.1, by decide⟩
  · exact okS_end h (by decide) (by decide)
theorem flt_nn {ext : Bool} {net : Int32} : 0 ≤ fltU m n ext net := by
  rcases fltU_nn (m := m) (n := n) (ext := ext) (net := net) with h | h
  · rw [h]; decide
  · grind
theorem look_AI0 (h : AI0 a) (hl : (aPre a).length ≤ 12) (hp : p < 4) (h0 : pSt (aPe a p) ≠ 0) (hm : ∀ k, m k < 256) : AI0 (lookA a p m) ∧ (aPre (lookA a p m)).length ≤ 12 := by
  have hs := h.2.2 p hp
  have e : ∀ {c d : Int32}, 0 ≤ c → 0 ≤ d → AI0 (stPe a p (endS (aPe a p) c d)) ∧ (aPre (stPe a p (endS (aPe a p) c d))).length ≤ 12 := fun hc hd => ⟨AI0_pe h (okS_end hs hc hd), hl⟩
  unfold lookA
  split
  · exact e (by decide) (by decide)
  · split
    · exact e (by decide) (by decide)
    · by_cases hz : (if m 1 = 1 then m 0 = 6 else if m 1 = 2 then 4 ≤ m 0 else if m 1 = 3 then m 0 = 4 else m 0 = 2)
      · rw [if_pos hz]
        split
        · exact ⟨AI0_pe h (okS_close hs), hl⟩
        · split
          · rename_i h1
            exact ⟨AI0_pe h (okS_sent hs h1 hm), hl⟩
          · split
            · rename_i h2
              exact ⟨AI0_pe h (okS_agr hs h2), hl⟩
            · rename_i n1 n2
              have h3 : pSt (aPe a p) = 3 := by
                rcases hs.2.1.2.2.2.2.2 with q | q | q | q
                · exact absurd q h0
                · exact absurd q n1
                · exact absurd q n2
                · exact q
              have hho : pHo (aPe a p) ≠ 0 → 0 < pHo (aPe a p) := fun z => by
                obtain ⟨H, q1, q2, q3, q4⟩ := hs.2.1.1
                rw [q4] at z ⊢
                exact (by decide +kernel : ∀ H, H ≤ 9 → nI H ≠ 0 → 0 < nI H) H q1 z
              have hs1 : okS (sHt (aPe a p) (pHo (aPe a p))) := okS_Ht hs (fun z => by rw [h3] at z; exact absurd z (by decide)) (fun _ => hho)
              unfold upA
              split
              · exact e (by decide) (by decide)
              · split
                · exact ⟨AI0_pe h hs1, hl⟩
                · split
                  · exact ⟨AI0_pe h (okS_end hs1 (by decide) flt_nn), hl⟩
                  · rename_i hfl
                    have hfl := Classical.not_not.mp hfl
                    split
                    · exact ⟨AI0_pe h (okS_end hs1 (by decide) (by decide)), hl⟩
                    · obtain ⟨hr, hr0⟩ := okRt_rtX hm hfl
                      obtain ⟨-, -, -, hpf⟩ := fltU_0 hfl
                      obtain ⟨q1, q2, -⟩ := sHt_get (s := aPe a p) (x := pHo (aPe a p))
                      have est : pSt (sHt (aPe a p) (pHo (aPe a p))) = pSt (aPe a p) := by simp only [pSt, sHt]
                      obtain ⟨g1, g2, g3⟩ := fold_wd (pre := aPre a) hl (prL m 3 (m 2)) _ hs1
                      obtain ⟨k1, k2, k3, k4⟩ := fold_an hr (prL m (toU m) (anU m (m 0))) (aPre a, (prL m 3 (m 2)).foldl (wdQ (aPre a)) (sHt (aPe a p) (pHo (aPe a p)))) g1 (g2.trans (est.trans h3)) (fun z => hr0 (decide_eq_true (by rw [← q1, ← g3]; exact z))) hl h.1 (fun q hq => by
                        obtain ⟨j, hj, rfl⟩ := mem_prL.mp hq
                        exact hpf j hj)
                      unfold takeA
                      rw [stPe_at]
                      refine ⟨⟨k3, fun k hk => h.2.1 k (Nat.le_trans k4 hk), fun q hq => ?_⟩, k2⟩
                      show okS (upO (aPe (stPe a p _)) p _ q)
                      by_cases eq : q = p
                      · subst eq; rw [upO_same]; exact k1
                      · rw [upO_ne eq, stPe_ne eq]; exact h.2.2 q hq
      · rw [if_neg hz]
        exact e (by decide) (by decide)
end I2
