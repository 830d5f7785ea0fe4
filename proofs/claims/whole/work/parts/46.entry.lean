def rs_S0 : rs_Shp := (0, fun _ => 0, fun _ => 0)
def rs_m0 : rs_Mem := (fun _ _ => 0, fun _ _ => 0, fun _ _ => 0, fun _ _ => 0)
def rs_SF : rs_Shp := rs_ad 320 (rs_ad 319 (KS_Mo 281 (rs_ad 280 (KS_Sp 1 (rs_ad 0 rs_S0 1 0)) 11 0)) 22 1) 23 1
def rs_MF : rs_Mem := KM_Mo 281 (KM_Sp 1 rs_m0)
theorem rs_hin : ∀ c, c < 12 → ∀ w ∈ u_ws (rs_cn c) (rs_ft c) (rs_nf c), w ∈ rs_W := by decide +kernel
theorem rs_hinst : ∀ c, c < 12 → Cond.instantiable (rs_cn c) (rs_nf c) ∈ rs_W := by decide +kernel
theorem rs_nwin : ∀ q ∈ rs_NW, Cond.methodLinkNest q.1 q.2.1 q.2.2.1 q.2.2.2 ∈ lw_tbl := by decide +kernel
theorem rs_arrEx {s : State} {args : Array Value} (hts : ∀ w ∈ rs_W, w.before args s = true) (hO : rs_O s) (kd : Nat) : ∃ cA : ClassId, 20 ≤ kd → kd ≤ 26 → ArrOfT s cA (rs_et kd) ∧ va_RA s cA (rs_et kd) := by
  have prim : ∀ ty : FieldType, (∀ cA, s.vm.findClass ("[" ++ ty.toString) = some cA → va_RA s cA ty) → Cond.arrayClass ty ∈ rs_W → ∃ cA : ClassId, ArrOfT s cA ty ∧ va_RA s cA ty := fun ty hR hw => by
    obtain ⟨c, k, comp, h1, h2, h3⟩ := Cond.arrayClass_spec (hts _ hw)
    exact ⟨c, fun n z => ⟨(fun q h => by cases h), k, h2, comp, h3⟩, hR c h1⟩
  have objs : ∀ C : String, va_AO C s → ∃ cA : ClassId, ArrOfT s cA (.object C) ∧ va_RA s cA (.object C) := fun C h => by
    obtain ⟨comp, c, k, h1, h2, h3, h4, h5⟩ := Cond.arrayOver_spec h
    exact ⟨c, fun n z => ⟨(fun q h => by cases h), k, h3, comp, h4⟩, k, comp, h3, h4, h1, h5⟩
  have arrs : ∃ cA : ClassId, ArrOfT s cA (.array .int) ∧ va_RA s cA (.array .int) := by
    obtain ⟨comp, c, k, h1, h2, h3, h4, h5⟩ := arrayOverA_spec hO.2.2
    exact ⟨c, fun n z => ⟨(fun q h => by cases h), k, h3, comp, h4⟩, h5⟩
  by_cases h1 : 20 ≤ kd
  · by_cases h2 : kd ≤ 26
    · rcases (by omega : kd = 20 ∨ kd = 21 ∨ kd = 22 ∨ kd = 23 ∨ kd = 24 ∨ kd = 25 ∨ kd = 26) with rfl | rfl | rfl | rfl | rfl | rfl | rfl
      · obtain ⟨cA, h⟩ := prim .int (fun _ h => h) tw_52; exact ⟨cA, fun _ _ => h⟩
      · obtain ⟨cA, h⟩ := prim .boolean (fun _ h => h) tw_53; exact ⟨cA, fun _ _ => h⟩
      · obtain ⟨cA, h⟩ := prim .long (fun _ h => h) tw_1293; exact ⟨cA, fun _ _ => h⟩
      · obtain ⟨cA, h⟩ := prim .double (fun _ h => h) tw_253; exact ⟨cA, fun _ _ => h⟩
      · obtain ⟨cA, h⟩ := objs _ hO.1; exact ⟨cA, fun _ _ => h⟩
      · obtain ⟨cA, h⟩ := objs _ hO.2.1; exact ⟨cA, fun _ _ => h⟩
      · obtain ⟨cA, h⟩ := arrs; exact ⟨cA, fun _ _ => h⟩
    · exact ⟨0, fun _ h => absurd h h2⟩
  · exact ⟨0, fun h => absurd h h1⟩
theorem rs_entryO {s : State} {args : Array Value} (h : ∀ w ∈ lw_tbl, w.before args s = true) : rs_O s :=
  ⟨va_AO.of (h (.arrayOver (.object "RouteSpeaker$Peer")) (by decide +kernel)), va_AO.of (h (.arrayOver (.object "RouteSpeaker$Route")) (by decide +kernel)), h (.arrayOver (.array .int)) (by decide +kernel)⟩
theorem rs_entryK {s : State} {args : Array Value} (h : ∀ w ∈ lw_tbl, w.before args s = true) : ∃ G : rs_G, rs_K G s := by
  have hts := rs_hts h
  have hO := rs_entryO h
  have key : ∀ c : Nat, ∃ q : ClassId × (Nat → Nat), c < 12 → u_Kn s (rs_cn c) (rs_ft c) (rs_nf c) q.1 q.2 := fun c => by
    by_cases hc : c < 12
    · obtain ⟨cC, iS, hk⟩ := u_known hts (rs_hin c hc) (hts _ (rs_hinst c hc))
      exact ⟨(cC, iS), fun _ => hk⟩
    · exact ⟨(0, fun _ => 0), fun h => absurd h hc⟩
  have arr := rs_arrEx hts hO
  refine ⟨((fun c => (Classical.choose (key c)).1, fun c => (Classical.choose (key c)).2), fun kd => Classical.choose (arr kd)), ⟨fun c q hq => ?_, fun k q hq => by simp at hq⟩, fun kd a b => Classical.choose_spec (arr kd) a b, fun q hq => ?_⟩
  · have hc : c < 12 := by
      have := (List.getElem?_eq_some_iff.mp hq).1
      simpa [rs_cl] using this
    have e := (rs_cl_at (kd := c) (by omega)).symm.trans hq
    have e2 := Option.some.inj e
    subst e2
    exact Classical.choose_spec (key c) hc
  · exact va_tabs rfl rfl (h _ (rs_nwin q hq))
theorem rs_entryX {s : State} {args : Array Value} {Bm : Nat} (h : ∀ w ∈ lw_tbl, w.before args s = true) (hg : (Jvm.Cond.and given_1 narrow_1).before args s = true) (hBm : Bm + 1 = s.heap.size) : rs_X Bm s := by
  have hs := flat_of_before _ hg
  have hA : ∀ a : Nat, a < s.heap.size → ¬ rs_A Bm a := fun a ha hb => by have h2 : Bm < a := hb; omega
  have hini := h (.initialized "java/lang/Throwable") (by decide +kernel)
  have l1 := h (.laysStatic "java/lang/Throwable" "UNASSIGNED_STACK" "[Ljava/lang/StackTraceElement;") (by decide +kernel)
  have l2 := h (.laysStatic "java/lang/Throwable" "SUPPRESSED_SENTINEL" "Ljava/util/List;") (by decide +kernel)
  refine ⟨fun w hw => ?_, fun q hq => ?_, va_Zqof l1 hini (hs (.isRef (.static "java/lang/Throwable" "UNASSIGNED_STACK" "[Ljava/lang/StackTraceElement;")) (by decide +kernel)) hA, va_Zqof l2 hini (hs (.isRef (.static "java/lang/Throwable" "SUPPRESSED_SENTINEL" "Ljava/util/List;")) (by decide +kernel)) hA, by omega, l1, l2⟩
  · obtain ⟨h1, h2⟩ := List.mem_filter.mp hw
    exact va_tabs (Bool.and_eq_true_iff.mp h2).2 rfl (h w h1)
  · have key : ∀ q ∈ rs_NC, Cond.not (.castable q.1 q.2) ∈ flatC (Jvm.Cond.and given_1 narrow_1) := by decide +kernel
    exact va_Nc.of (hs _ (key q hq))
def rs_okb (S : rs_Shp) (kd v : Nat) : Bool := Nat.ble 1 v && Nat.ble v S.1 && S.2.1 v == kd
theorem rs_okb_of {S : rs_Shp} {kd v : Nat} (h : rs_okb S kd v = true) : rs_Ok S kd v := by
  unfold rs_okb at h
  simp only [Bool.and_eq_true, beq_iff_eq] at h
  exact ⟨Nat.le_of_ble_eq_true h.1.1, Nat.le_of_ble_eq_true h.1.2, h.2⟩
def rs_tb (S : rs_Shp) (σ : rs_Mem) : Bool := (List.range (S.1 + 1)).all (fun v => v == 0 ||
  ((Nat.ble 1 (S.2.1 v) && Nat.ble (S.2.1 v) 11 && (List.range (rs_nf (S.2.1 v))).all (fun k => rs_rf (S.2.1 v) k == 0 || rs_okb S (rs_rf (S.2.1 v) k) (rs_R σ v k))) ||
   (Nat.ble 20 (S.2.1 v) && (Nat.ble (S.2.1 v) 23 || (List.range (S.2.2 v)).all (fun j => rs_okb S (rs_ae (S.2.1 v)) (rs_R σ v j))))))
theorem rs_tb_of {S : rs_Shp} {σ : rs_Mem} (h : rs_tb S σ = true) : rs_T S σ := by
  unfold rs_tb at h
  rw [List.all_eq_true] at h
  refine ⟨fun kd v k hv a b hk hr => ?_, fun kd v j hv a b hj => ?_⟩
  · obtain ⟨h1, h2, rfl⟩ := hv
    have h3 := h v (List.mem_range.mpr (by omega))
    simp only [Bool.or_eq_true, Bool.and_eq_true, beq_iff_eq, List.all_eq_true, List.mem_range] at h3
    rcases h3 with h3 | h3 | h3
    · omega
    · rcases h3.2 k hk with h4 | h4
      · exact absurd h4 hr
      · exact rs_okb_of h4
    · have := Nat.le_of_ble_eq_true h3.1; omega
  · obtain ⟨h1, h2, rfl⟩ := hv
    have h3 := h v (List.mem_range.mpr (by omega))
    simp only [Bool.or_eq_true, Bool.and_eq_true, beq_iff_eq, List.all_eq_true, List.mem_range] at h3
    rcases h3 with h3 | h3 | h3
    · omega
    · have := Nat.le_of_ble_eq_true h3.1.2; omega
    · rcases h3.2 with h4 | h4
      · have := Nat.le_of_ble_eq_true h4; omega
      · exact rs_okb_of (h4 j hj)
set_option maxRecDepth 100000 in
theorem rs_TF : rs_T rs_SF rs_MF := rs_tb_of (by decide +kernel)
set_option maxRecDepth 100000 in
set_option maxHeartbeats 4000000 in
theorem lw_enter {p : Program} {e : Env} {s : State} {m : MethodId} {below : List Frame} {meth : Method} {c : Code} (l : Launch) (hfl : l.flags = flags0) {b L n : Nat} {xs : Nat → Int32} (hn : n ≤ 600000) (hF : L_La_law_28 rs_SF.2.2 xs L n 1 281 320 321 0 rs_MF) (C0 : lw_At p s m meth c b L xs) : W p l e room_1 s m #[Value.ref b] below meth c s.heap [] 0 0 (lw_Z below #[Value.ref b] s) (entryFrame m ([Value.ref b] : List Value).toArray 9) := by
  obtain ⟨hx, hb, hr, hml, hown, hts, hV, hbl, hlocks, hg⟩ := C0
  obtain ⟨Bm, hBm⟩ : ∃ Bm : Nat, Bm + 1 = s.heap.size := ⟨s.heap.size - 1, by omega⟩
  obtain ⟨G, hK⟩ := rs_entryK hts
  have hX := rs_entryX hts hg hBm
  have hO := rs_entryO hts
  have C : rs_C "RouteSpeakerLaw" code 9 ret G p s m meth c #[Value.ref b] := ⟨hx, hb, hml, hr, hown, rs_hts hts, hK, hlocks⟩
  have hl := lv_entry ([.ref b]) (n := 9) (Nat.le_of_ble_eq_true rfl)
  rw [lg_entry_eq]
  generalize (lg_sl ([.ref b]) ++ List.replicate (9 - (lg_sl ([.ref b])).length) Slot.unset).toArray = ls at hl ⊢
  have hl : lv_has ls 9 [(0, .ref b)] := hl
  have hS : va_S (rs_A Bm) s.heap s.heap [] := va_S.rf
  have hH : rs_HZ G Bm rs_S0 rs_m0 s.heap := ⟨⟨by show Bm + 0 < _; omega, fun v h0 hv => by have h2 : v ≤ 0 := hv; omega⟩, by show _ = Bm + 0 + 1; omega, fun v _ k => ⟨rfl, rfl, rfl, rfl⟩⟩
  refine rs_newo C hH hS (kd := 1) (by decide) (by decide) tw_20 tw_21 tw_1 (Nat.le_of_ble_eq_true rfl) (Nat.le_of_ble_eq_true rfl) d_La_law_0 (fun S1 vv H eS1 ev okv hH hS => ?_)
  replace eS1 : S1 = rs_ad 0 rs_S0 1 0 := rs_ad_of eS1 rfl
  have eb1 : S1.1 = 1 := by rw [eS1]; rfl
  obtain rfl : vv = 1 := rs_vv (c := 0) ev rfl
  refine lv_dup hx hb d_La_law_3 rfl ?_
  refine rs_cvZ (rs_runIZ C hO hH hl (J_Sp_init l eb1 okv) rc_Sp_init rfl tw_22 tw_23 rfl ⟨⟨rfl, rfl⟩, ⟨by decide, by decide⟩, Nat.le_of_ble_eq_true rfl, Nat.le_of_ble_eq_true rfl⟩ (Nat.le_of_ble_eq_true rfl) rfl d_La_law_4) hS (fun S2 σ2 H locs hH hS hq => ?_)
  obtain ⟨eS2, eM2⟩ := hq
  have eb2 : S2.1 = 280 := by rw [eS2]; rfl
  refine lv_astore_n hx hb d_La_law_7 rfl hl (by decide) (lv' := [(1, .ref (Bm + 1)), (0, .ref b)]) rfl (fun ls hl => ?_)
  refine rs_newo C hH hS (kd := 11) (by decide) (by decide) tw_893 tw_894 tw_11 (Nat.le_of_ble_eq_true rfl) (Nat.le_of_ble_eq_true rfl) d_La_law_8 (fun S3 vv H eS3 ev okv hH hS => ?_)
  replace eS3 : S3 = rs_ad 280 S2 11 0 := rs_ad_of eS3 eb2
  have eb3 : S3.1 = 281 := by rw [eS3]; rfl
  obtain rfl : vv = 281 := rs_vv (c := 280) ev eb2
  refine lv_dup hx hb d_La_law_11 rfl ?_
  refine rs_cvZ (rs_runIZ C hO hH hl (J_Mo_init l eb3 okv) rc_Mo_init rfl tw_895 tw_896 rfl ⟨⟨rfl, rfl⟩, ⟨by decide, by decide⟩, Nat.le_of_ble_eq_true rfl, Nat.le_of_ble_eq_true rfl⟩ (Nat.le_of_ble_eq_true rfl) rfl d_La_law_12) hS (fun S4 σ4 H locs hH hS hq => ?_)
  obtain ⟨eS4, eM4⟩ := hq
  have eb4 : S4.1 = 319 := by rw [eS4]; rfl
  refine lv_astore_n hx hb d_La_law_15 rfl hl (by decide) (lv' := [(2, .ref (Bm + 281)), (1, .ref (Bm + 1)), (0, .ref b)]) rfl (fun ls hl => ?_)
  refine lv_iconst hx hb d_La_law_16 ki_1 ?_
  refine rs_newp C hH hS (kd := 22) (N := 1) (atype := .long) ⟨by decide, rfl⟩ tw_1293 (by decide) (by decide) (by decide) (Nat.le_of_ble_eq_true rfl) (Nat.le_of_ble_eq_true rfl) d_La_law_17 (fun S5 vv H eS5 ev okv hH hS => ?_)
  replace eS5 : S5 = rs_ad 319 S4 22 1 := rs_ad_of eS5 eb4
  have eb5 : S5.1 = 320 := by rw [eS5]; rfl
  obtain rfl : vv = 320 := rs_vv (c := 319) ev eb4
  refine lv_astore_n hx hb d_La_law_19 rfl hl (by decide) (lv' := [(3, .ref (Bm + 320)), (2, .ref (Bm + 281)), (1, .ref (Bm + 1)), (0, .ref b)]) rfl (fun ls hl => ?_)
  refine lv_iconst hx hb d_La_law_20 ki_1 ?_
  refine rs_newp C hH hS (kd := 23) (N := 1) (atype := .double) ⟨by decide, rfl⟩ tw_253 (by decide) (by decide) (by decide) (Nat.le_of_ble_eq_true rfl) (Nat.le_of_ble_eq_true rfl) d_La_law_21 (fun S6 vv H eS6 ev okv hH hS => ?_)
  replace eS6 : S6 = rs_ad 320 S5 23 1 := rs_ad_of eS6 eb5
  obtain rfl : vv = 321 := rs_vv (c := 320) ev eb5
  refine lv_astore hx hb d_La_law_23 hl (by decide) (lv' := [(4, .ref (Bm + 321)), (3, .ref (Bm + 320)), (2, .ref (Bm + 281)), (1, .ref (Bm + 1)), (0, .ref b)]) rfl (fun ls hl => ?_)
  refine lv_iconst hx hb d_La_law_25 ki_0 ?_
  refine lv_istore hx hb d_La_law_26 hl (by decide) (lv' := [(5, .int (0 : Int32)), (4, .ref (Bm + 321)), (3, .ref (Bm + 320)), (2, .ref (Bm + 281)), (1, .ref (Bm + 1)), (0, .ref b)]) rfl (fun ls hl => ?_)
  have hSF : S6 = rs_SF := by unfold rs_SF; rw [eS6, eS5, eS4, eS3, eS2, eS1]
  have hMF : σ4 = rs_MF := by unfold rs_MF; rw [eM4, eM2]
  clear eS1 eS2 eS3 eS4 eS5 eS6 eM2 eM4 eb1 eb2 eb3 eb4 eb5
  subst hSF
  subst hMF
  have hc1 : rs_nf 1 = 6 := rfl
  have hc2 : rs_nf 11 = 41 := rfl
  exact JL_La_law_28 C hfl hX hBm hV hbl rfl n 1 281 320 321 0 rs_MF H _ ls _ _ (by omega) (by omega) (rs_okb_of (by decide +kernel)) (rs_okb_of (by decide +kernel)) (rs_okb_of (by decide +kernel)) (rs_okb_of (by decide +kernel)) hH.1 rs_TF hS (lv_sub hl [5, 4, 3, 2, 1, 0] rfl) hF
