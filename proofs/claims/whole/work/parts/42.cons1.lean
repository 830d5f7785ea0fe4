/-! RouteSpeaker$Incoming.<init>()V : 40 cells -/
theorem d_In_init_0 : decode prog_3_method_1_code 0 = .ok (.aload_n 0, 1) := by decide +kernel
theorem d_In_init_1 : decode prog_3_method_1_code 1 = .ok (.invokespecial 3, 3) := by decide +kernel
theorem d_In_init_4 : decode prog_3_method_1_code 4 = .ok (.aload_n 0, 1) := by decide +kernel
theorem d_In_init_5 : decode prog_3_method_1_code 5 = .ok (.bipush (12), 2) := by decide +kernel
theorem d_In_init_7 : decode prog_3_method_1_code 7 = .ok (.anewarray 9, 3) := by decide +kernel
theorem d_In_init_10 : decode prog_3_method_1_code 10 = .ok (.putfield 11, 3) := by decide +kernel
theorem d_In_init_13 : decode prog_3_method_1_code 13 = .ok (.aload_n 0, 1) := by decide +kernel
theorem d_In_init_14 : decode prog_3_method_1_code 14 = .ok (.bipush (12), 2) := by decide +kernel
theorem d_In_init_16 : decode prog_3_method_1_code 16 = .ok (.newarray .boolean, 2) := by decide +kernel
theorem d_In_init_18 : decode prog_3_method_1_code 18 = .ok (.putfield 17, 3) := by decide +kernel
theorem d_In_init_21 : decode prog_3_method_1_code 21 = .ok (.aload_n 0, 1) := by decide +kernel
theorem d_In_init_22 : decode prog_3_method_1_code 22 = .ok (.bipush (12), 2) := by decide +kernel
theorem d_In_init_24 : decode prog_3_method_1_code 24 = .ok (.newarray .boolean, 2) := by decide +kernel
theorem d_In_init_26 : decode prog_3_method_1_code 26 = .ok (.putfield 21, 3) := by decide +kernel
theorem d_In_init_29 : decode prog_3_method_1_code 29 = .ok (.aload_n 0, 1) := by decide +kernel
theorem d_In_init_30 : decode prog_3_method_1_code 30 = .ok (.bipush (12), 2) := by decide +kernel
theorem d_In_init_32 : decode prog_3_method_1_code 32 = .ok (.newarray .double, 2) := by decide +kernel
theorem d_In_init_34 : decode prog_3_method_1_code 34 = .ok (.putfield 24, 3) := by decide +kernel
theorem d_In_init_37 : decode prog_3_method_1_code 37 = .ok (.iconst 0, 1) := by decide +kernel
theorem d_In_init_38 : decode prog_3_method_1_code 38 = .ok (.istore_n 1, 1) := by decide +kernel
theorem d_In_init_39 : decode prog_3_method_1_code 39 = .ok (.iload_n 1, 1) := by decide +kernel
theorem d_In_init_40 : decode prog_3_method_1_code 40 = .ok (.bipush (12), 2) := by decide +kernel
theorem d_In_init_42 : decode prog_3_method_1_code 42 = .ok (.if_icmp .ge (22), 3) := by decide +kernel
theorem d_In_init_45 : decode prog_3_method_1_code 45 = .ok (.aload_n 0, 1) := by decide +kernel
theorem d_In_init_46 : decode prog_3_method_1_code 46 = .ok (.getfield 11, 3) := by decide +kernel
theorem d_In_init_49 : decode prog_3_method_1_code 49 = .ok (.iload_n 1, 1) := by decide +kernel
theorem d_In_init_50 : decode prog_3_method_1_code 50 = .ok (.new 9, 3) := by decide +kernel
theorem d_In_init_53 : decode prog_3_method_1_code 53 = .ok (.dup, 1) := by decide +kernel
theorem d_In_init_54 : decode prog_3_method_1_code 54 = .ok (.invokespecial 28, 3) := by decide +kernel
theorem d_In_init_57 : decode prog_3_method_1_code 57 = .ok (.aastore, 1) := by decide +kernel
theorem d_In_init_58 : decode prog_3_method_1_code 58 = .ok (.iinc 1 (1), 3) := by decide +kernel
theorem d_In_init_61 : decode prog_3_method_1_code 61 = .ok (.goto (-22), 3) := by decide +kernel
theorem d_In_init_64 : decode prog_3_method_1_code 64 = .ok (.return_, 1) := by decide +kernel
def KS_In (b : Nat) (S : rs_Shp) : rs_Shp := (KS_Ro (b + 38) (rs_ad (b + 37) (KS_Ro (b + 35) (rs_ad (b + 34) (KS_Ro (b + 32) (rs_ad (b + 31) (KS_Ro (b + 29) (rs_ad (b + 28) (KS_Ro (b + 26) (rs_ad (b + 25) (KS_Ro (b + 23) (rs_ad (b + 22) (KS_Ro (b + 20) (rs_ad (b + 19) (KS_Ro (b + 17) (rs_ad (b + 16) (KS_Ro (b + 14) (rs_ad (b + 13) (KS_Ro (b + 11) (rs_ad (b + 10) (KS_Ro (b + 8) (rs_ad (b + 7) (KS_Ro (b + 5) (rs_ad (b + 4) (rs_ad (b + 3) (rs_ad (b + 2) (rs_ad (b + 1) (rs_ad b S 25 12) 21 12) 21 12) 23 12) 8 0)) 8 0)) 8 0)) 8 0)) 8 0)) 8 0)) 8 0)) 8 0)) 8 0)) 8 0)) 8 0)) 8 0))
def KM_In (b : Nat) (σ : rs_Mem) : rs_Mem := (rs_sR (KM_Ro (b + 38) (rs_sR (KM_Ro (b + 35) (rs_sR (KM_Ro (b + 32) (rs_sR (KM_Ro (b + 29) (rs_sR (KM_Ro (b + 26) (rs_sR (KM_Ro (b + 23) (rs_sR (KM_Ro (b + 20) (rs_sR (KM_Ro (b + 17) (rs_sR (KM_Ro (b + 14) (rs_sR (KM_Ro (b + 11) (rs_sR (KM_Ro (b + 8) (rs_sR (KM_Ro (b + 5) (rs_sR (rs_sR (rs_sR (rs_sR σ b 0 (b + 1)) b 1 (b + 2)) b 2 (b + 3)) b 3 (b + 4))) (b + 1) 0 (b + 5))) (b + 1) 1 (b + 8))) (b + 1) 2 (b + 11))) (b + 1) 3 (b + 14))) (b + 1) 4 (b + 17))) (b + 1) 5 (b + 20))) (b + 1) 6 (b + 23))) (b + 1) 7 (b + 26))) (b + 1) 8 (b + 29))) (b + 1) 9 (b + 32))) (b + 1) 10 (b + 35))) (b + 1) 11 (b + 38))
theorem KE_In {b v : Nat} {S : rs_Shp} (h : v ≤ b) : (KS_In b S).2.1 v = S.2.1 v := by
  simp (disch := omega) only [KS_In, rs_ad_k, rs_adm_k, KE_Ro]
theorem KF_In {b v : Nat} {S : rs_Shp} (h : v ≤ b) : (KS_In b S).2.2 v = S.2.2 v := by
  simp (disch := omega) only [KS_In, rs_ad_l, rs_adm_l, KF_Ro]
theorem KO_In {b u j : Nat} {σ : rs_Mem} (h : u < b) : rs_R (KM_In b σ) u j = rs_R σ u j := by
  simp (disch := omega) only [KM_In, rs_Rother, rs_RI, rs_Rmul, KO_Ro]
abbrev y_In_init : MethodName := ({ cls := "RouteSpeaker$Incoming", name := "<init>", desc := "()V" } : Jvm.MethodName)
theorem rc_In_init : rs_Cal y_In_init prog_3_method_1_code 2 none 0 := ⟨tw_232, tw_10, by decide, by decide, by decide +kernel⟩
set_option maxRecDepth 100000 in
set_option maxHeartbeats 8000000 in
theorem J_In_init (l : Launch) {G : rs_G} {Bm b : Nat} {S : rs_Shp} {σ : rs_Mem} (eb0 : S.1 = b) (hk : rs_Ok S 3 b) :
    Met l y_In_init (rs_ws y_In_init prog_3_method_1_code 2 none) { frames := 2, cells := 40, slots := 324, locals := 60 } (rs_PZ G Bm S σ [.ref (Bm + b)]) (rs_QZ G Bm (fun S1 σ1 => S1 = KS_In b S ∧ σ1 = KM_In b σ)) 40 324 (rs_A Bm) := by
  refine rs_metZ (own := "RouteSpeaker$Incoming") (by decide) rfl rfl (Nat.le_of_ble_eq_true rfl) (fun p e s m below meth c ls C hi hl hH hS => ?_)
  replace hl : lv_has ls 2 [(0, .ref (Bm + b))] := hl
  have hx := C.1
  have hb := C.2.1
  have b0 : 0 < b := hk.1
  refine lv_aload_n hx hb d_In_init_0 rfl (lv_at hl 0 rfl) ?_
  refine W.objInit hx hb C.2.2.2.2.1 (C.2.2.2.2.2.1 _ tw_233) (C.2.2.2.2.2.1 _ tw_26) (C.2.2.2.2.2.1 _ tw_27) rfl (by rw [C.2.2.1]; exact hl.1) rfl d_In_init_1 (Nat.le_of_ble_eq_true rfl) (Nat.le_of_ble_eq_true rfl) ?_
  refine W.eq (g2 := F0 m 4 ls []) rfl ?_
  refine lv_aload_n hx hb d_In_init_4 rfl (lv_at hl 0 rfl) ?_
  refine lv_bipush hx hb d_In_init_5 kb_12 ?_
  refine rs_newq C hi.2 hH hS (kd := 25) (N := 12) (Or.inr ⟨rfl, rfl⟩) tw_234 (by decide) (by decide) (by decide) (Nat.le_of_ble_eq_true rfl) (Nat.le_of_ble_eq_true rfl) d_In_init_7 (fun S1 vv H eS1 ev okv hH hS => ?_)
  replace eS1 : S1 = rs_ad b S 25 12 := rs_ad_of eS1 eb0
  have eb1 : S1.1 = (b + 1) := by rw [eS1]; rfl
  obtain rfl : vv = (b + 1) := rs_vv ev eb0
  clear ev
  have ln1_1 : S1.2.2 (b + 1) = 12 := by rw [eS1]; exact if_pos rfl
  have ok1_1 := okv
  clear okv
  have ok0_1 : rs_Ok S1 3 b := rs_okup (n := 0) (n' := 1) hk (by simp (disch := first | exact rs_n11 rfl | exact rs_n01 | exact Nat.le_refl _ | exact rs_m11 rfl | exact rs_m01 rfl | exact rs_q11 rfl | exact rs_q01 rfl | exact rs_q10 rfl | exact rs_q00 rfl | exact rs_p11 rfl | exact rs_p01 rfl | exact rs_p10 rfl) only [eS1, rs_ad_k, rs_adm_k]) eb0 eb1 rfl
  refine rs_putRZ C hi hH hS (kd := 3) (k := 0) (kr := 25) ok0_1 (by decide) rfl rfl rfl rfl ok1_1 tw_237 d_In_init_10 (fun σ1 H locs eM1 hH hS => ?_)
  have fd0_0 : rs_R σ1 b 0 = (b + 1) := by rw [eM1]; exact rs_Rsame ⟨rfl, rfl⟩
  refine lv_aload_n hx hb d_In_init_13 rfl (lv_at hl 0 rfl) ?_
  refine lv_bipush hx hb d_In_init_14 kb_12 ?_
  refine rs_newp C hH hS (kd := 21) (N := 12) (atype := .boolean) ⟨by decide, rfl⟩ tw_53 (by decide) (by decide) (by decide) (Nat.le_of_ble_eq_true rfl) (Nat.le_of_ble_eq_true rfl) d_In_init_16 (fun S2 vv H eS2 ev okv hH hS => ?_)
  replace eS2 : S2 = rs_ad (b + 1) S1 21 12 := rs_ad_of eS2 eb1
  have eb2 : S2.1 = (b + 2) := by rw [eS2]; rfl
  obtain rfl : vv = (b + 2) := rs_vv ev eb1
  clear ev
  have ln2_2 : S2.2.2 (b + 2) = 12 := by rw [eS2]; exact if_pos rfl
  have ok2_2 := okv
  clear okv
  have ok0_2 : rs_Ok S2 3 b := rs_okup (n := 1) (n' := 2) ok0_1 (by simp (disch := first | exact rs_n11 rfl | exact rs_n01 | exact Nat.le_refl _ | exact rs_m11 rfl | exact rs_m01 rfl | exact rs_q11 rfl | exact rs_q01 rfl | exact rs_q10 rfl | exact rs_q00 rfl | exact rs_p11 rfl | exact rs_p01 rfl | exact rs_p10 rfl) only [eS2, rs_ad_k, rs_adm_k]) eb1 eb2 rfl
  refine rs_putRZ C hi hH hS (kd := 3) (k := 1) (kr := 21) ok0_2 (by decide) rfl rfl rfl rfl ok2_2 tw_239 d_In_init_18 (fun σ2 H locs eM2 hH hS => ?_)
  have fd0_1 : rs_R σ2 b 1 = (b + 2) := by rw [eM2]; exact rs_Rsame ⟨rfl, rfl⟩
  refine lv_aload_n hx hb d_In_init_21 rfl (lv_at hl 0 rfl) ?_
  refine lv_bipush hx hb d_In_init_22 kb_12 ?_
  refine rs_newp C hH hS (kd := 21) (N := 12) (atype := .boolean) ⟨by decide, rfl⟩ tw_53 (by decide) (by decide) (by decide) (Nat.le_of_ble_eq_true rfl) (Nat.le_of_ble_eq_true rfl) d_In_init_24 (fun S3 vv H eS3 ev okv hH hS => ?_)
  replace eS3 : S3 = rs_ad (b + 2) S2 21 12 := rs_ad_of eS3 eb2
  have eb3 : S3.1 = (b + 3) := by rw [eS3]; rfl
  obtain rfl : vv = (b + 3) := rs_vv ev eb2
  clear ev
  have ln3_3 : S3.2.2 (b + 3) = 12 := by rw [eS3]; exact if_pos rfl
  have ok3_3 := okv
  clear okv
  have ok0_3 : rs_Ok S3 3 b := rs_okup (n := 2) (n' := 3) ok0_2 (by simp (disch := first | exact rs_n11 rfl | exact rs_n01 | exact Nat.le_refl _ | exact rs_m11 rfl | exact rs_m01 rfl | exact rs_q11 rfl | exact rs_q01 rfl | exact rs_q10 rfl | exact rs_q00 rfl | exact rs_p11 rfl | exact rs_p01 rfl | exact rs_p10 rfl) only [eS3, rs_ad_k, rs_adm_k]) eb2 eb3 rfl
  refine rs_putRZ C hi hH hS (kd := 3) (k := 2) (kr := 21) ok0_3 (by decide) rfl rfl rfl rfl ok3_3 tw_241 d_In_init_26 (fun σ3 H locs eM3 hH hS => ?_)
  have fd0_2 : rs_R σ3 b 2 = (b + 3) := by rw [eM3]; exact rs_Rsame ⟨rfl, rfl⟩
  refine lv_aload_n hx hb d_In_init_29 rfl (lv_at hl 0 rfl) ?_
  refine lv_bipush hx hb d_In_init_30 kb_12 ?_
  refine rs_newp C hH hS (kd := 23) (N := 12) (atype := .double) ⟨by decide, rfl⟩ tw_253 (by decide) (by decide) (by decide) (Nat.le_of_ble_eq_true rfl) (Nat.le_of_ble_eq_true rfl) d_In_init_32 (fun S4 vv H eS4 ev okv hH hS => ?_)
  replace eS4 : S4 = rs_ad (b + 3) S3 23 12 := rs_ad_of eS4 eb3
  have eb4 : S4.1 = (b + 4) := by rw [eS4]; rfl
  obtain rfl : vv = (b + 4) := rs_vv ev eb3
  clear ev
  have ln4_4 : S4.2.2 (b + 4) = 12 := by rw [eS4]; exact if_pos rfl
  have ok4_4 := okv
  clear okv
  have ok0_4 : rs_Ok S4 3 b := rs_okup (n := 3) (n' := 4) ok0_3 (by simp (disch := first | exact rs_n11 rfl | exact rs_n01 | exact Nat.le_refl _ | exact rs_m11 rfl | exact rs_m01 rfl | exact rs_q11 rfl | exact rs_q01 rfl | exact rs_q10 rfl | exact rs_q00 rfl | exact rs_p11 rfl | exact rs_p01 rfl | exact rs_p10 rfl) only [eS4, rs_ad_k, rs_adm_k]) eb3 eb4 rfl
  refine rs_putRZ C hi hH hS (kd := 3) (k := 3) (kr := 23) ok0_4 (by decide) rfl rfl rfl rfl ok4_4 tw_243 d_In_init_34 (fun σ4 H locs eM4 hH hS => ?_)
  have fd0_3 : rs_R σ4 b 3 = (b + 4) := by rw [eM4]; exact rs_Rsame ⟨rfl, rfl⟩
  refine lv_iconst hx hb d_In_init_37 ki_0 ?_
  refine lv_istore_n hx hb d_In_init_38 rfl hl (by decide) (lv' := [(1, .int (0 : Int32)), (0, .ref (Bm + b))]) rfl (fun ls hl => ?_)
  refine lv_iload_n hx hb d_In_init_39 rfl (lv_at hl 0 rfl) ?_
  refine lv_bipush hx hb d_In_init_40 kb_12 ?_
  refine lv_icmp_ge hx hb d_In_init_42 (tgt := 64) rfl (fun hc => absurd hc (by decide)) (fun _ => ?_)
  refine lv_aload_n hx hb d_In_init_45 rfl (lv_at hl 1 rfl) ?_
  have fd0_0_1 : rs_R σ4 b 0 = (b + 1) := by (simp (disch := first | exact rs_n11 rfl | exact rs_n01 | exact Nat.le_refl _ | exact rs_m11 rfl | exact rs_m01 rfl | exact rs_q11 rfl | exact rs_q01 rfl | exact rs_q10 rfl | exact rs_q00 rfl | exact rs_p11 rfl | exact rs_p01 rfl | exact rs_p10 rfl) only [eM4, eM3, eM2, rs_Rother, rs_RI, rs_Rmul]); exact fd0_0
  have ok1_4 : rs_Ok S4 25 (b + 1) := rs_okup (n := 1) (n' := 4) ok1_1 (by simp (disch := first | exact rs_n11 rfl | exact rs_n01 | exact Nat.le_refl _ | exact rs_m11 rfl | exact rs_m01 rfl | exact rs_q11 rfl | exact rs_q01 rfl | exact rs_q10 rfl | exact rs_q00 rfl | exact rs_p11 rfl | exact rs_p01 rfl | exact rs_p10 rfl) only [eS4, eS3, eS2, rs_ad_k, rs_adm_k]) eb1 eb4 rfl
  have ln1_4 : S4.2.2 (b + 1) = 12 := by (simp (disch := first | exact rs_n11 rfl | exact rs_n01 | exact Nat.le_refl _ | exact rs_m11 rfl | exact rs_m01 rfl | exact rs_q11 rfl | exact rs_q01 rfl | exact rs_q10 rfl | exact rs_q00 rfl | exact rs_p11 rfl | exact rs_p01 rfl | exact rs_p10 rfl) only [eS4, eS3, eS2, rs_ad_l, rs_adm_l]); exact ln1_1
  refine rs_getVZ C hH (kd := 3) (k := 0) (kr := 25) ok0_4 (by decide) fd0_0_1 ok1_4 tw_237 d_In_init_46 ?_
  refine lv_iload_n hx hb d_In_init_49 rfl (lv_at hl 0 rfl) ?_
  refine rs_newo C hH hS (kd := 8) (by decide) (by decide) tw_234 tw_57 tw_3 (Nat.le_of_ble_eq_true rfl) (Nat.le_of_ble_eq_true rfl) d_In_init_50 (fun S5 vv H eS5 ev okv hH hS => ?_)
  replace eS5 : S5 = rs_ad (b + 4) S4 8 0 := rs_ad_of eS5 eb4
  have eb5 : S5.1 = (b + 5) := by rw [eS5]; rfl
  obtain rfl : vv = (b + 5) := rs_vv ev eb4
  clear ev
  have ok5_5 := okv
  clear okv
  refine lv_dup hx hb d_In_init_53 rfl ?_
  refine rs_cvZ (rs_runIZ C hi.2 hH hl (J_Ro_init l eb5 ok5_5) rc_Ro_init rfl tw_236 tw_59 rfl ⟨⟨rfl, rfl⟩, ⟨by decide, by decide⟩, Nat.le_of_ble_eq_true rfl, Nat.le_of_ble_eq_true rfl⟩ (Nat.le_of_ble_eq_true rfl) rfl d_In_init_54) hS (fun S6 σ5 H locs hH hS hq => ?_)
  obtain ⟨eS6, eM5⟩ := hq
  have eb6 : S6.1 = (b + 7) := by rw [eS6]; rfl
  have ok1_6 : rs_Ok S6 25 (b + 1) := rs_okup (n := 4) (n' := 7) ok1_4 (by simp (disch := first | exact rs_n11 rfl | exact rs_n01 | exact Nat.le_refl _ | exact rs_m11 rfl | exact rs_m01 rfl | exact rs_q11 rfl | exact rs_q01 rfl | exact rs_q10 rfl | exact rs_q00 rfl | exact rs_p11 rfl | exact rs_p01 rfl | exact rs_p10 rfl) only [eS6, eS5, rs_ad_k, rs_adm_k, KE_Ro, KF_Ro]) eb4 eb6 rfl
  have ln1_6 : S6.2.2 (b + 1) = 12 := by (simp (disch := first | exact rs_n11 rfl | exact rs_n01 | exact Nat.le_refl _ | exact rs_m11 rfl | exact rs_m01 rfl | exact rs_q11 rfl | exact rs_q01 rfl | exact rs_q10 rfl | exact rs_q00 rfl | exact rs_p11 rfl | exact rs_p01 rfl | exact rs_p10 rfl) only [eS6, eS5, rs_ad_l, rs_adm_l, KE_Ro, KF_Ro]); exact ln1_4
  have ok5_6 : rs_Ok S6 8 (b + 5) := rs_okup (n := 5) (n' := 7) ok5_5 (by simp (disch := first | exact rs_n11 rfl | exact rs_n01 | exact Nat.le_refl _ | exact rs_m11 rfl | exact rs_m01 rfl | exact rs_q11 rfl | exact rs_q01 rfl | exact rs_q10 rfl | exact rs_q00 rfl | exact rs_p11 rfl | exact rs_p01 rfl | exact rs_p10 rfl) only [eS6, rs_ad_k, rs_adm_k, KE_Ro, KF_Ro]) eb5 eb6 rfl
  refine rs_aastZ C hH hS (Or.inr ⟨rfl, rfl⟩) ok1_6 ok5_6 (show vp_in (0 : Int32) (S6.2.2 (b + 1)) by rw [ln1_6]; unfold vp_in; decide) d_In_init_57 (rs_cast C.2.2.2.2.2.2.1 (by decide)) (fun σ6 H locs eM6 hH hS => ?_)
  replace eM6 : σ6 = rs_sR σ5 (b + 1) 0 (b + 5) := by rw [eM6, show ((0 : Int32)).toNatClampNeg = 0 from by decide]
  refine lv_iinc hx hb d_In_init_58 hl (k := 0) rfl (v := (1 : Int32)) (by decide) (by decide) (lv' := [(1, .int (1 : Int32)), (0, .ref (Bm + b))]) rfl (fun ls hl => ?_)
  refine lv_goto hx hb d_In_init_61 (tgt := 39) rfl ?_
  refine lv_iload_n hx hb d_In_init_39 rfl (lv_at hl 0 rfl) ?_
  refine lv_bipush hx hb d_In_init_40 kb_12 ?_
  refine lv_icmp_ge hx hb d_In_init_42 (tgt := 64) rfl (fun hc => absurd hc (by decide)) (fun _ => ?_)
  refine lv_aload_n hx hb d_In_init_45 rfl (lv_at hl 1 rfl) ?_
  have fd0_0_2 : rs_R σ6 b 0 = (b + 1) := by (simp (disch := first | exact rs_n11 rfl | exact rs_n01 | exact Nat.le_refl _ | exact rs_m11 rfl | exact rs_m01 rfl | exact rs_q11 rfl | exact rs_q01 rfl | exact rs_q10 rfl | exact rs_q00 rfl | exact rs_p11 rfl | exact rs_p01 rfl | exact rs_p10 rfl) only [eM6, eM5, rs_Rother, rs_RI, rs_Rmul, KO_Ro]); exact fd0_0_1
  have ok0_6 : rs_Ok S6 3 b := rs_okup (n := 4) (n' := 7) ok0_4 (by simp (disch := first | exact rs_n11 rfl | exact rs_n01 | exact Nat.le_refl _ | exact rs_m11 rfl | exact rs_m01 rfl | exact rs_q11 rfl | exact rs_q01 rfl | exact rs_q10 rfl | exact rs_q00 rfl | exact rs_p11 rfl | exact rs_p01 rfl | exact rs_p10 rfl) only [eS6, eS5, rs_ad_k, rs_adm_k, KE_Ro, KF_Ro]) eb4 eb6 rfl
  refine rs_getVZ C hH (kd := 3) (k := 0) (kr := 25) ok0_6 (by decide) fd0_0_2 ok1_6 tw_237 d_In_init_46 ?_
  refine lv_iload_n hx hb d_In_init_49 rfl (lv_at hl 0 rfl) ?_
  refine rs_newo C hH hS (kd := 8) (by decide) (by decide) tw_234 tw_57 tw_3 (Nat.le_of_ble_eq_true rfl) (Nat.le_of_ble_eq_true rfl) d_In_init_50 (fun S7 vv H eS7 ev okv hH hS => ?_)
  replace eS7 : S7 = rs_ad (b + 7) S6 8 0 := rs_ad_of eS7 eb6
  have eb7 : S7.1 = (b + 8) := by rw [eS7]; rfl
  obtain rfl : vv = (b + 8) := rs_vv ev eb6
  clear ev
  have ok8_7 := okv
  clear okv
  refine lv_dup hx hb d_In_init_53 rfl ?_
  refine rs_cvZ (rs_runIZ C hi.2 hH hl (J_Ro_init l eb7 ok8_7) rc_Ro_init rfl tw_236 tw_59 rfl ⟨⟨rfl, rfl⟩, ⟨by decide, by decide⟩, Nat.le_of_ble_eq_true rfl, Nat.le_of_ble_eq_true rfl⟩ (Nat.le_of_ble_eq_true rfl) rfl d_In_init_54) hS (fun S8 σ7 H locs hH hS hq => ?_)
  obtain ⟨eS8, eM7⟩ := hq
  have eb8 : S8.1 = (b + 10) := by rw [eS8]; rfl
  have ok1_8 : rs_Ok S8 25 (b + 1) := rs_okup (n := 7) (n' := 10) ok1_6 (by simp (disch := first | exact rs_n11 rfl | exact rs_n01 | exact Nat.le_refl _ | exact rs_m11 rfl | exact rs_m01 rfl | exact rs_q11 rfl | exact rs_q01 rfl | exact rs_q10 rfl | exact rs_q00 rfl | exact rs_p11 rfl | exact rs_p01 rfl | exact rs_p10 rfl) only [eS8, eS7, rs_ad_k, rs_adm_k, KE_Ro, KF_Ro]) eb6 eb8 rfl
  have ln1_8 : S8.2.2 (b + 1) = 12 := by (simp (disch := first | exact rs_n11 rfl | exact rs_n01 | exact Nat.le_refl _ | exact rs_m11 rfl | exact rs_m01 rfl | exact rs_q11 rfl | exact rs_q01 rfl | exact rs_q10 rfl | exact rs_q00 rfl | exact rs_p11 rfl | exact rs_p01 rfl | exact rs_p10 rfl) only [eS8, eS7, rs_ad_l, rs_adm_l, KE_Ro, KF_Ro]); exact ln1_6
  have ok8_8 : rs_Ok S8 8 (b + 8) := rs_okup (n := 8) (n' := 10) ok8_7 (by simp (disch := first | exact rs_n11 rfl | exact rs_n01 | exact Nat.le_refl _ | exact rs_m11 rfl | exact rs_m01 rfl | exact rs_q11 rfl | exact rs_q01 rfl | exact rs_q10 rfl | exact rs_q00 rfl | exact rs_p11 rfl | exact rs_p01 rfl | exact rs_p10 rfl) only [eS8, rs_ad_k, rs_adm_k, KE_Ro, KF_Ro]) eb7 eb8 rfl
  refine rs_aastZ C hH hS (Or.inr ⟨rfl, rfl⟩) ok1_8 ok8_8 (show vp_in (1 : Int32) (S8.2.2 (b + 1)) by rw [ln1_8]; unfold vp_in; decide) d_In_init_57 (rs_cast C.2.2.2.2.2.2.1 (by decide)) (fun σ8 H locs eM8 hH hS => ?_)
  replace eM8 : σ8 = rs_sR σ7 (b + 1) 1 (b + 8) := by rw [eM8, show ((1 : Int32)).toNatClampNeg = 1 from by decide]
  refine lv_iinc hx hb d_In_init_58 hl (k := 0) rfl (v := (2 : Int32)) (by decide) (by decide) (lv' := [(1, .int (2 : Int32)), (0, .ref (Bm + b))]) rfl (fun ls hl => ?_)
  refine lv_goto hx hb d_In_init_61 (tgt := 39) rfl ?_
  refine lv_iload_n hx hb d_In_init_39 rfl (lv_at hl 0 rfl) ?_
  refine lv_bipush hx hb d_In_init_40 kb_12 ?_
  refine lv_icmp_ge hx hb d_In_init_42 (tgt := 64) rfl (fun hc => absurd hc (by decide)) (fun _ => ?_)
  refine lv_aload_n hx hb d_In_init_45 rfl (lv_at hl 1 rfl) ?_
  have fd0_0_3 : rs_R σ8 b 0 = (b + 1) := by (simp (disch := first | exact rs_n11 rfl | exact rs_n01 | exact Nat.le_refl _ | exact rs_m11 rfl | exact rs_m01 rfl | exact rs_q11 rfl | exact rs_q01 rfl | exact rs_q10 rfl | exact rs_q00 rfl | exact rs_p11 rfl | exact rs_p01 rfl | exact rs_p10 rfl) only [eM8, eM7, rs_Rother, rs_RI, rs_Rmul, KO_Ro]); exact fd0_0_2
  have ok0_8 : rs_Ok S8 3 b := rs_okup (n := 7) (n' := 10) ok0_6 (by simp (disch := first | exact rs_n11 rfl | exact rs_n01 | exact Nat.le_refl _ | exact rs_m11 rfl | exact rs_m01 rfl | exact rs_q11 rfl | exact rs_q01 rfl | exact rs_q10 rfl | exact rs_q00 rfl | exact rs_p11 rfl | exact rs_p01 rfl | exact rs_p10 rfl) only [eS8, eS7, rs_ad_k, rs_adm_k, KE_Ro, KF_Ro]) eb6 eb8 rfl
  refine rs_getVZ C hH (kd := 3) (k := 0) (kr := 25) ok0_8 (by decide) fd0_0_3 ok1_8 tw_237 d_In_init_46 ?_
  refine lv_iload_n hx hb d_In_init_49 rfl (lv_at hl 0 rfl) ?_
  refine rs_newo C hH hS (kd := 8) (by decide) (by decide) tw_234 tw_57 tw_3 (Nat.le_of_ble_eq_true rfl) (Nat.le_of_ble_eq_true rfl) d_In_init_50 (fun S9 vv H eS9 ev okv hH hS => ?_)
  replace eS9 : S9 = rs_ad (b + 10) S8 8 0 := rs_ad_of eS9 eb8
  have eb9 : S9.1 = (b + 11) := by rw [eS9]; rfl
  obtain rfl : vv = (b + 11) := rs_vv ev eb8
  clear ev
  have ok11_9 := okv
  clear okv
  refine lv_dup hx hb d_In_init_53 rfl ?_
  refine rs_cvZ (rs_runIZ C hi.2 hH hl (J_Ro_init l eb9 ok11_9) rc_Ro_init rfl tw_236 tw_59 rfl ⟨⟨rfl, rfl⟩, ⟨by decide, by decide⟩, Nat.le_of_ble_eq_true rfl, Nat.le_of_ble_eq_true rfl⟩ (Nat.le_of_ble_eq_true rfl) rfl d_In_init_54) hS (fun S10 σ9 H locs hH hS hq => ?_)
  obtain ⟨eS10, eM9⟩ := hq
  have eb10 : S10.1 = (b + 13) := by rw [eS10]; rfl
  have ok1_10 : rs_Ok S10 25 (b + 1) := rs_okup (n := 10) (n' := 13) ok1_8 (by simp (disch := first | exact rs_n11 rfl | exact rs_n01 | exact Nat.le_refl _ | exact rs_m11 rfl | exact rs_m01 rfl | exact rs_q11 rfl | exact rs_q01 rfl | exact rs_q10 rfl | exact rs_q00 rfl | exact rs_p11 rfl | exact rs_p01 rfl | exact rs_p10 rfl) only [eS10, eS9, rs_ad_k, rs_adm_k, KE_Ro, KF_Ro]) eb8 eb10 rfl
  have ln1_10 : S10.2.2 (b + 1) = 12 := by (simp (disch := first | exact rs_n11 rfl | exact rs_n01 | exact Nat.le_refl _ | exact rs_m11 rfl | exact rs_m01 rfl | exact rs_q11 rfl | exact rs_q01 rfl | exact rs_q10 rfl | exact rs_q00 rfl | exact rs_p11 rfl | exact rs_p01 rfl | exact rs_p10 rfl) only [eS10, eS9, rs_ad_l, rs_adm_l, KE_Ro, KF_Ro]); exact ln1_8
  have ok11_10 : rs_Ok S10 8 (b + 11) := rs_okup (n := 11) (n' := 13) ok11_9 (by simp (disch := first | exact rs_n11 rfl | exact rs_n01 | exact Nat.le_refl _ | exact rs_m11 rfl | exact rs_m01 rfl | exact rs_q11 rfl | exact rs_q01 rfl | exact rs_q10 rfl | exact rs_q00 rfl | exact rs_p11 rfl | exact rs_p01 rfl | exact rs_p10 rfl) only [eS10, rs_ad_k, rs_adm_k, KE_Ro, KF_Ro]) eb9 eb10 rfl
  refine rs_aastZ C hH hS (Or.inr ⟨rfl, rfl⟩) ok1_10 ok11_10 (show vp_in (2 : Int32) (S10.2.2 (b + 1)) by rw [ln1_10]; unfold vp_in; decide) d_In_init_57 (rs_cast C.2.2.2.2.2.2.1 (by decide)) (fun σ10 H locs eM10 hH hS => ?_)
  replace eM10 : σ10 = rs_sR σ9 (b + 1) 2 (b + 11) := by rw [eM10, show ((2 : Int32)).toNatClampNeg = 2 from by decide]
  refine lv_iinc hx hb d_In_init_58 hl (k := 0) rfl (v := (3 : Int32)) (by decide) (by decide) (lv' := [(1, .int (3 : Int32)), (0, .ref (Bm + b))]) rfl (fun ls hl => ?_)
  refine lv_goto hx hb d_In_init_61 (tgt := 39) rfl ?_
  refine lv_iload_n hx hb d_In_init_39 rfl (lv_at hl 0 rfl) ?_
  refine lv_bipush hx hb d_In_init_40 kb_12 ?_
  refine lv_icmp_ge hx hb d_In_init_42 (tgt := 64) rfl (fun hc => absurd hc (by decide)) (fun _ => ?_)
  refine lv_aload_n hx hb d_In_init_45 rfl (lv_at hl 1 rfl) ?_
  have fd0_0_4 : rs_R σ10 b 0 = (b + 1) := by (simp (disch := first | exact rs_n11 rfl | exact rs_n01 | exact Nat.le_refl _ | exact rs_m11 rfl | exact rs_m01 rfl | exact rs_q11 rfl | exact rs_q01 rfl | exact rs_q10 rfl | exact rs_q00 rfl | exact rs_p11 rfl | exact rs_p01 rfl | exact rs_p10 rfl) only [eM10, eM9, rs_Rother, rs_RI, rs_Rmul, KO_Ro]); exact fd0_0_3
  have ok0_10 : rs_Ok S10 3 b := rs_okup (n := 10) (n' := 13) ok0_8 (by simp (disch := first | exact rs_n11 rfl | exact rs_n01 | exact Nat.le_refl _ | exact rs_m11 rfl | exact rs_m01 rfl | exact rs_q11 rfl | exact rs_q01 rfl | exact rs_q10 rfl | exact rs_q00 rfl | exact rs_p11 rfl | exact rs_p01 rfl | exact rs_p10 rfl) only [eS10, eS9, rs_ad_k, rs_adm_k, KE_Ro, KF_Ro]) eb8 eb10 rfl
  refine rs_getVZ C hH (kd := 3) (k := 0) (kr := 25) ok0_10 (by decide) fd0_0_4 ok1_10 tw_237 d_In_init_46 ?_
  refine lv_iload_n hx hb d_In_init_49 rfl (lv_at hl 0 rfl) ?_
  refine rs_newo C hH hS (kd := 8) (by decide) (by decide) tw_234 tw_57 tw_3 (Nat.le_of_ble_eq_true rfl) (Nat.le_of_ble_eq_true rfl) d_In_init_50 (fun S11 vv H eS11 ev okv hH hS => ?_)
  replace eS11 : S11 = rs_ad (b + 13) S10 8 0 := rs_ad_of eS11 eb10
  have eb11 : S11.1 = (b + 14) := by rw [eS11]; rfl
  obtain rfl : vv = (b + 14) := rs_vv ev eb10
  clear ev
  have ok14_11 := okv
  clear okv
  refine lv_dup hx hb d_In_init_53 rfl ?_
  refine rs_cvZ (rs_runIZ C hi.2 hH hl (J_Ro_init l eb11 ok14_11) rc_Ro_init rfl tw_236 tw_59 rfl ⟨⟨rfl, rfl⟩, ⟨by decide, by decide⟩, Nat.le_of_ble_eq_true rfl, Nat.le_of_ble_eq_true rfl⟩ (Nat.le_of_ble_eq_true rfl) rfl d_In_init_54) hS (fun S12 σ11 H locs hH hS hq => ?_)
  obtain ⟨eS12, eM11⟩ := hq
  have eb12 : S12.1 = (b + 16) := by rw [eS12]; rfl
  have ok1_12 : rs_Ok S12 25 (b + 1) := rs_okup (n := 13) (n' := 16) ok1_10 (by simp (disch := first | exact rs_n11 rfl | exact rs_n01 | exact Nat.le_refl _ | exact rs_m11 rfl | exact rs_m01 rfl | exact rs_q11 rfl | exact rs_q01 rfl | exact rs_q10 rfl | exact rs_q00 rfl | exact rs_p11 rfl | exact rs_p01 rfl | exact rs_p10 rfl) only [eS12, eS11, rs_ad_k, rs_adm_k, KE_Ro, KF_Ro]) eb10 eb12 rfl
  have ln1_12 : S12.2.2 (b + 1) = 12 := by (simp (disch := first | exact rs_n11 rfl | exact rs_n01 | exact Nat.le_refl _ | exact rs_m11 rfl | exact rs_m01 rfl | exact rs_q11 rfl | exact rs_q01 rfl | exact rs_q10 rfl | exact rs_q00 rfl | exact rs_p11 rfl | exact rs_p01 rfl | exact rs_p10 rfl) only [eS12, eS11, rs_ad_l, rs_adm_l, KE_Ro, KF_Ro]); exact ln1_10
  have ok14_12 : rs_Ok S12 8 (b + 14) := rs_okup (n := 14) (n' := 16) ok14_11 (by simp (disch := first | exact rs_n11 rfl | exact rs_n01 | exact Nat.le_refl _ | exact rs_m11 rfl | exact rs_m01 rfl | exact rs_q11 rfl | exact rs_q01 rfl | exact rs_q10 rfl | exact rs_q00 rfl | exact rs_p11 rfl | exact rs_p01 rfl | exact rs_p10 rfl) only [eS12, rs_ad_k, rs_adm_k, KE_Ro, KF_Ro]) eb11 eb12 rfl
  refine rs_aastZ C hH hS (Or.inr ⟨rfl, rfl⟩) ok1_12 ok14_12 (show vp_in (3 : Int32) (S12.2.2 (b + 1)) by rw [ln1_12]; unfold vp_in; decide) d_In_init_57 (rs_cast C.2.2.2.2.2.2.1 (by decide)) (fun σ12 H locs eM12 hH hS => ?_)
  replace eM12 : σ12 = rs_sR σ11 (b + 1) 3 (b + 14) := by rw [eM12, show ((3 : Int32)).toNatClampNeg = 3 from by decide]
  refine lv_iinc hx hb d_In_init_58 hl (k := 0) rfl (v := (4 : Int32)) (by decide) (by decide) (lv' := [(1, .int (4 : Int32)), (0, .ref (Bm + b))]) rfl (fun ls hl => ?_)
  refine lv_goto hx hb d_In_init_61 (tgt := 39) rfl ?_
  refine lv_iload_n hx hb d_In_init_39 rfl (lv_at hl 0 rfl) ?_
  refine lv_bipush hx hb d_In_init_40 kb_12 ?_
  refine lv_icmp_ge hx hb d_In_init_42 (tgt := 64) rfl (fun hc => absurd hc (by decide)) (fun _ => ?_)
  refine lv_aload_n hx hb d_In_init_45 rfl (lv_at hl 1 rfl) ?_
  have fd0_0_5 : rs_R σ12 b 0 = (b + 1) := by (simp (disch := first | exact rs_n11 rfl | exact rs_n01 | exact Nat.le_refl _ | exact rs_m11 rfl | exact rs_m01 rfl | exact rs_q11 rfl | exact rs_q01 rfl | exact rs_q10 rfl | exact rs_q00 rfl | exact rs_p11 rfl | exact rs_p01 rfl | exact rs_p10 rfl) only [eM12, eM11, rs_Rother, rs_RI, rs_Rmul, KO_Ro]); exact fd0_0_4
  have ok0_12 : rs_Ok S12 3 b := rs_okup (n := 13) (n' := 16) ok0_10 (by simp (disch := first | exact rs_n11 rfl | exact rs_n01 | exact Nat.le_refl _ | exact rs_m11 rfl | exact rs_m01 rfl | exact rs_q11 rfl | exact rs_q01 rfl | exact rs_q10 rfl | exact rs_q00 rfl | exact rs_p11 rfl | exact rs_p01 rfl | exact rs_p10 rfl) only [eS12, eS11, rs_ad_k, rs_adm_k, KE_Ro, KF_Ro]) eb10 eb12 rfl
  refine rs_getVZ C hH (kd := 3) (k := 0) (kr := 25) ok0_12 (by decide) fd0_0_5 ok1_12 tw_237 d_In_init_46 ?_
  refine lv_iload_n hx hb d_In_init_49 rfl (lv_at hl 0 rfl) ?_
  refine rs_newo C hH hS (kd := 8) (by decide) (by decide) tw_234 tw_57 tw_3 (Nat.le_of_ble_eq_true rfl) (Nat.le_of_ble_eq_true rfl) d_In_init_50 (fun S13 vv H eS13 ev okv hH hS => ?_)
  replace eS13 : S13 = rs_ad (b + 16) S12 8 0 := rs_ad_of eS13 eb12
  have eb13 : S13.1 = (b + 17) := by rw [eS13]; rfl
  obtain rfl : vv = (b + 17) := rs_vv ev eb12
  clear ev
  have ok17_13 := okv
  clear okv
  refine lv_dup hx hb d_In_init_53 rfl ?_
  refine rs_cvZ (rs_runIZ C hi.2 hH hl (J_Ro_init l eb13 ok17_13) rc_Ro_init rfl tw_236 tw_59 rfl ⟨⟨rfl, rfl⟩, ⟨by decide, by decide⟩, Nat.le_of_ble_eq_true rfl, Nat.le_of_ble_eq_true rfl⟩ (Nat.le_of_ble_eq_true rfl) rfl d_In_init_54) hS (fun S14 σ13 H locs hH hS hq => ?_)
  obtain ⟨eS14, eM13⟩ := hq
  have eb14 : S14.1 = (b + 19) := by rw [eS14]; rfl
  have ok1_14 : rs_Ok S14 25 (b + 1) := rs_okup (n := 16) (n' := 19) ok1_12 (by simp (disch := first | exact rs_n11 rfl | exact rs_n01 | exact Nat.le_refl _ | exact rs_m11 rfl | exact rs_m01 rfl | exact rs_q11 rfl | exact rs_q01 rfl | exact rs_q10 rfl | exact rs_q00 rfl | exact rs_p11 rfl | exact rs_p01 rfl | exact rs_p10 rfl) only [eS14, eS13, rs_ad_k, rs_adm_k, KE_Ro, KF_Ro]) eb12 eb14 rfl
  have ln1_14 : S14.2.2 (b + 1) = 12 := by (simp (disch := first | exact rs_n11 rfl | exact rs_n01 | exact Nat.le_refl _ | exact rs_m11 rfl | exact rs_m01 rfl | exact rs_q11 rfl | exact rs_q01 rfl | exact rs_q10 rfl | exact rs_q00 rfl | exact rs_p11 rfl | exact rs_p01 rfl | exact rs_p10 rfl) only [eS14, eS13, rs_ad_l, rs_adm_l, KE_Ro, KF_Ro]); exact ln1_12
  have ok17_14 : rs_Ok S14 8 (b + 17) := rs_okup (n := 17) (n' := 19) ok17_13 (by simp (disch := first | exact rs_n11 rfl | exact rs_n01 | exact Nat.le_refl _ | exact rs_m11 rfl | exact rs_m01 rfl | exact rs_q11 rfl | exact rs_q01 rfl | exact rs_q10 rfl | exact rs_q00 rfl | exact rs_p11 rfl | exact rs_p01 rfl | exact rs_p10 rfl) only [eS14, rs_ad_k, rs_adm_k, KE_Ro, KF_Ro]) eb13 eb14 rfl
  refine rs_aastZ C hH hS (Or.inr ⟨rfl, rfl⟩) ok1_14 ok17_14 (show vp_in (4 : Int32) (S14.2.2 (b + 1)) by rw [ln1_14]; unfold vp_in; decide) d_In_init_57 (rs_cast C.2.2.2.2.2.2.1 (by decide)) (fun σ14 H locs eM14 hH hS => ?_)
  replace eM14 : σ14 = rs_sR σ13 (b + 1) 4 (b + 17) := by rw [eM14, show ((4 : Int32)).toNatClampNeg = 4 from by decide]
  refine lv_iinc hx hb d_In_init_58 hl (k := 0) rfl (v := (5 : Int32)) (by decide) (by decide) (lv' := [(1, .int (5 : Int32)), (0, .ref (Bm + b))]) rfl (fun ls hl => ?_)
  refine lv_goto hx hb d_In_init_61 (tgt := 39) rfl ?_
  refine lv_iload_n hx hb d_In_init_39 rfl (lv_at hl 0 rfl) ?_
  refine lv_bipush hx hb d_In_init_40 kb_12 ?_
  refine lv_icmp_ge hx hb d_In_init_42 (tgt := 64) rfl (fun hc => absurd hc (by decide)) (fun _ => ?_)
  refine lv_aload_n hx hb d_In_init_45 rfl (lv_at hl 1 rfl) ?_
  have fd0_0_6 : rs_R σ14 b 0 = (b + 1) := by (simp (disch := first | exact rs_n11 rfl | exact rs_n01 | exact Nat.le_refl _ | exact rs_m11 rfl | exact rs_m01 rfl | exact rs_q11 rfl | exact rs_q01 rfl | exact rs_q10 rfl | exact rs_q00 rfl | exact rs_p11 rfl | exact rs_p01 rfl | exact rs_p10 rfl) only [eM14, eM13, rs_Rother, rs_RI, rs_Rmul, KO_Ro]); exact fd0_0_5
  have ok0_14 : rs_Ok S14 3 b := rs_okup (n := 16) (n' := 19) ok0_12 (by simp (disch := first | exact rs_n11 rfl | exact rs_n01 | exact Nat.le_refl _ | exact rs_m11 rfl | exact rs_m01 rfl | exact rs_q11 rfl | exact rs_q01 rfl | exact rs_q10 rfl | exact rs_q00 rfl | exact rs_p11 rfl | exact rs_p01 rfl | exact rs_p10 rfl) only [eS14, eS13, rs_ad_k, rs_adm_k, KE_Ro, KF_Ro]) eb12 eb14 rfl
  refine rs_getVZ C hH (kd := 3) (k := 0) (kr := 25) ok0_14 (by decide) fd0_0_6 ok1_14 tw_237 d_In_init_46 ?_
  refine lv_iload_n hx hb d_In_init_49 rfl (lv_at hl 0 rfl) ?_
  refine rs_newo C hH hS (kd := 8) (by decide) (by decide) tw_234 tw_57 tw_3 (Nat.le_of_ble_eq_true rfl) (Nat.le_of_ble_eq_true rfl) d_In_init_50 (fun S15 vv H eS15 ev okv hH hS => ?_)
  replace eS15 : S15 = rs_ad (b + 19) S14 8 0 := rs_ad_of eS15 eb14
  have eb15 : S15.1 = (b + 20) := by rw [eS15]; rfl
  obtain rfl : vv = (b + 20) := rs_vv ev eb14
  clear ev
  have ok20_15 := okv
  clear okv
  refine lv_dup hx hb d_In_init_53 rfl ?_
  refine rs_cvZ (rs_runIZ C hi.2 hH hl (J_Ro_init l eb15 ok20_15) rc_Ro_init rfl tw_236 tw_59 rfl ⟨⟨rfl, rfl⟩, ⟨by decide, by decide⟩, Nat.le_of_ble_eq_true rfl, Nat.le_of_ble_eq_true rfl⟩ (Nat.le_of_ble_eq_true rfl) rfl d_In_init_54) hS (fun S16 σ15 H locs hH hS hq => ?_)
  obtain ⟨eS16, eM15⟩ := hq
  have eb16 : S16.1 = (b + 22) := by rw [eS16]; rfl
  have ok1_16 : rs_Ok S16 25 (b + 1) := rs_okup (n := 19) (n' := 22) ok1_14 (by simp (disch := first | exact rs_n11 rfl | exact rs_n01 | exact Nat.le_refl _ | exact rs_m11 rfl | exact rs_m01 rfl | exact rs_q11 rfl | exact rs_q01 rfl | exact rs_q10 rfl | exact rs_q00 rfl | exact rs_p11 rfl | exact rs_p01 rfl | exact rs_p10 rfl) only [eS16, eS15, rs_ad_k, rs_adm_k, KE_Ro, KF_Ro]) eb14 eb16 rfl
  have ln1_16 : S16.2.2 (b + 1) = 12 := by (simp (disch := first | exact rs_n11 rfl | exact rs_n01 | exact Nat.le_refl _ | exact rs_m11 rfl | exact rs_m01 rfl | exact rs_q11 rfl | exact rs_q01 rfl | exact rs_q10 rfl | exact rs_q00 rfl | exact rs_p11 rfl | exact rs_p01 rfl | exact rs_p10 rfl) only [eS16, eS15, rs_ad_l, rs_adm_l, KE_Ro, KF_Ro]); exact ln1_14
  have ok20_16 : rs_Ok S16 8 (b + 20) := rs_okup (n := 20) (n' := 22) ok20_15 (by simp (disch := first | exact rs_n11 rfl | exact rs_n01 | exact Nat.le_refl _ | exact rs_m11 rfl | exact rs_m01 rfl | exact rs_q11 rfl | exact rs_q01 rfl | exact rs_q10 rfl | exact rs_q00 rfl | exact rs_p11 rfl | exact rs_p01 rfl | exact rs_p10 rfl) only [eS16, rs_ad_k, rs_adm_k, KE_Ro, KF_Ro]) eb15 eb16 rfl
  refine rs_aastZ C hH hS (Or.inr ⟨rfl, rfl⟩) ok1_16 ok20_16 (show vp_in (5 : Int32) (S16.2.2 (b + 1)) by rw [ln1_16]; unfold vp_in; decide) d_In_init_57 (rs_cast C.2.2.2.2.2.2.1 (by decide)) (fun σ16 H locs eM16 hH hS => ?_)
  replace eM16 : σ16 = rs_sR σ15 (b + 1) 5 (b + 20) := by rw [eM16, show ((5 : Int32)).toNatClampNeg = 5 from by decide]
  refine lv_iinc hx hb d_In_init_58 hl (k := 0) rfl (v := (6 : Int32)) (by decide) (by decide) (lv' := [(1, .int (6 : Int32)), (0, .ref (Bm + b))]) rfl (fun ls hl => ?_)
  refine lv_goto hx hb d_In_init_61 (tgt := 39) rfl ?_
  refine lv_iload_n hx hb d_In_init_39 rfl (lv_at hl 0 rfl) ?_
  refine lv_bipush hx hb d_In_init_40 kb_12 ?_
  refine lv_icmp_ge hx hb d_In_init_42 (tgt := 64) rfl (fun hc => absurd hc (by decide)) (fun _ => ?_)
  refine lv_aload_n hx hb d_In_init_45 rfl (lv_at hl 1 rfl) ?_
  have fd0_0_7 : rs_R σ16 b 0 = (b + 1) := by (simp (disch := first | exact rs_n11 rfl | exact rs_n01 | exact Nat.le_refl _ | exact rs_m11 rfl | exact rs_m01 rfl | exact rs_q11 rfl | exact rs_q01 rfl | exact rs_q10 rfl | exact rs_q00 rfl | exact rs_p11 rfl | exact rs_p01 rfl | exact rs_p10 rfl) only [eM16, eM15, rs_Rother, rs_RI, rs_Rmul, KO_Ro]); exact fd0_0_6
  have ok0_16 : rs_Ok S16 3 b := rs_okup (n := 19) (n' := 22) ok0_14 (by simp (disch := first | exact rs_n11 rfl | exact rs_n01 | exact Nat.le_refl _ | exact rs_m11 rfl | exact rs_m01 rfl | exact rs_q11 rfl | exact rs_q01 rfl | exact rs_q10 rfl | exact rs_q00 rfl | exact rs_p11 rfl | exact rs_p01 rfl | exact rs_p10 rfl) only [eS16, eS15, rs_ad_k, rs_adm_k, KE_Ro, KF_Ro]) eb14 eb16 rfl
  refine rs_getVZ C hH (kd := 3) (k := 0) (kr := 25) ok0_16 (by decide) fd0_0_7 ok1_16 tw_237 d_In_init_46 ?_
  refine lv_iload_n hx hb d_In_init_49 rfl (lv_at hl 0 rfl) ?_
  refine rs_newo C hH hS (kd := 8) (by decide) (by decide) tw_234 tw_57 tw_3 (Nat.le_of_ble_eq_true rfl) (Nat.le_of_ble_eq_true rfl) d_In_init_50 (fun S17 vv H eS17 ev okv hH hS => ?_)
  replace eS17 : S17 = rs_ad (b + 22) S16 8 0 := rs_ad_of eS17 eb16
  have eb17 : S17.1 = (b + 23) := by rw [eS17]; rfl
  obtain rfl : vv = (b + 23) := rs_vv ev eb16
  clear ev
  have ok23_17 := okv
  clear okv
  refine lv_dup hx hb d_In_init_53 rfl ?_
  refine rs_cvZ (rs_runIZ C hi.2 hH hl (J_Ro_init l eb17 ok23_17) rc_Ro_init rfl tw_236 tw_59 rfl ⟨⟨rfl, rfl⟩, ⟨by decide, by decide⟩, Nat.le_of_ble_eq_true rfl, Nat.le_of_ble_eq_true rfl⟩ (Nat.le_of_ble_eq_true rfl) rfl d_In_init_54) hS (fun S18 σ17 H locs hH hS hq => ?_)
  obtain ⟨eS18, eM17⟩ := hq
  have eb18 : S18.1 = (b + 25) := by rw [eS18]; rfl
  have ok1_18 : rs_Ok S18 25 (b + 1) := rs_okup (n := 22) (n' := 25) ok1_16 (by simp (disch := first | exact rs_n11 rfl | exact rs_n01 | exact Nat.le_refl _ | exact rs_m11 rfl | exact rs_m01 rfl | exact rs_q11 rfl | exact rs_q01 rfl | exact rs_q10 rfl | exact rs_q00 rfl | exact rs_p11 rfl | exact rs_p01 rfl | exact rs_p10 rfl) only [eS18, eS17, rs_ad_k, rs_adm_k, KE_Ro, KF_Ro]) eb16 eb18 rfl
  have ln1_18 : S18.2.2 (b + 1) = 12 := by (simp (disch := first | exact rs_n11 rfl | exact rs_n01 | exact Nat.le_refl _ | exact rs_m11 rfl | exact rs_m01 rfl | exact rs_q11 rfl | exact rs_q01 rfl | exact rs_q10 rfl | exact rs_q00 rfl | exact rs_p11 rfl | exact rs_p01 rfl | exact rs_p10 rfl) only [eS18, eS17, rs_ad_l, rs_adm_l, KE_Ro, KF_Ro]); exact ln1_16
  have ok23_18 : rs_Ok S18 8 (b + 23) := rs_okup (n := 23) (n' := 25) ok23_17 (by simp (disch := first | exact rs_n11 rfl | exact rs_n01 | exact Nat.le_refl _ | exact rs_m11 rfl | exact rs_m01 rfl | exact rs_q11 rfl | exact rs_q01 rfl | exact rs_q10 rfl | exact rs_q00 rfl | exact rs_p11 rfl | exact rs_p01 rfl | exact rs_p10 rfl) only [eS18, rs_ad_k, rs_adm_k, KE_Ro, KF_Ro]) eb17 eb18 rfl
  refine rs_aastZ C hH hS (Or.inr ⟨rfl, rfl⟩) ok1_18 ok23_18 (show vp_in (6 : Int32) (S18.2.2 (b + 1)) by rw [ln1_18]; unfold vp_in; decide) d_In_init_57 (rs_cast C.2.2.2.2.2.2.1 (by decide)) (fun σ18 H locs eM18 hH hS => ?_)
  replace eM18 : σ18 = rs_sR σ17 (b + 1) 6 (b + 23) := by rw [eM18, show ((6 : Int32)).toNatClampNeg = 6 from by decide]
  refine lv_iinc hx hb d_In_init_58 hl (k := 0) rfl (v := (7 : Int32)) (by decide) (by decide) (lv' := [(1, .int (7 : Int32)), (0, .ref (Bm + b))]) rfl (fun ls hl => ?_)
  refine lv_goto hx hb d_In_init_61 (tgt := 39) rfl ?_
  refine lv_iload_n hx hb d_In_init_39 rfl (lv_at hl 0 rfl) ?_
  refine lv_bipush hx hb d_In_init_40 kb_12 ?_
  refine lv_icmp_ge hx hb d_In_init_42 (tgt := 64) rfl (fun hc => absurd hc (by decide)) (fun _ => ?_)
  refine lv_aload_n hx hb d_In_init_45 rfl (lv_at hl 1 rfl) ?_
  have fd0_0_8 : rs_R σ18 b 0 = (b + 1) := by (simp (disch := first | exact rs_n11 rfl | exact rs_n01 | exact Nat.le_refl _ | exact rs_m11 rfl | exact rs_m01 rfl | exact rs_q11 rfl | exact rs_q01 rfl | exact rs_q10 rfl | exact rs_q00 rfl | exact rs_p11 rfl | exact rs_p01 rfl | exact rs_p10 rfl) only [eM18, eM17, rs_Rother, rs_RI, rs_Rmul, KO_Ro]); exact fd0_0_7
  have ok0_18 : rs_Ok S18 3 b := rs_okup (n := 22) (n' := 25) ok0_16 (by simp (disch := first | exact rs_n11 rfl | exact rs_n01 | exact Nat.le_refl _ | exact rs_m11 rfl | exact rs_m01 rfl | exact rs_q11 rfl | exact rs_q01 rfl | exact rs_q10 rfl | exact rs_q00 rfl | exact rs_p11 rfl | exact rs_p01 rfl | exact rs_p10 rfl) only [eS18, eS17, rs_ad_k, rs_adm_k, KE_Ro, KF_Ro]) eb16 eb18 rfl
  refine rs_getVZ C hH (kd := 3) (k := 0) (kr := 25) ok0_18 (by decide) fd0_0_8 ok1_18 tw_237 d_In_init_46 ?_
  refine lv_iload_n hx hb d_In_init_49 rfl (lv_at hl 0 rfl) ?_
  refine rs_newo C hH hS (kd := 8) (by decide) (by decide) tw_234 tw_57 tw_3 (Nat.le_of_ble_eq_true rfl) (Nat.le_of_ble_eq_true rfl) d_In_init_50 (fun S19 vv H eS19 ev okv hH hS => ?_)
  replace eS19 : S19 = rs_ad (b + 25) S18 8 0 := rs_ad_of eS19 eb18
  have eb19 : S19.1 = (b + 26) := by rw [eS19]; rfl
  obtain rfl : vv = (b + 26) := rs_vv ev eb18
  clear ev
  have ok26_19 := okv
  clear okv
  refine lv_dup hx hb d_In_init_53 rfl ?_
  refine rs_cvZ (rs_runIZ C hi.2 hH hl (J_Ro_init l eb19 ok26_19) rc_Ro_init rfl tw_236 tw_59 rfl ⟨⟨rfl, rfl⟩, ⟨by decide, by decide⟩, Nat.le_of_ble_eq_true rfl, Nat.le_of_ble_eq_true rfl⟩ (Nat.le_of_ble_eq_true rfl) rfl d_In_init_54) hS (fun S20 σ19 H locs hH hS hq => ?_)
  obtain ⟨eS20, eM19⟩ := hq
  have eb20 : S20.1 = (b + 28) := by rw [eS20]; rfl
  have ok1_20 : rs_Ok S20 25 (b + 1) := rs_okup (n := 25) (n' := 28) ok1_18 (by simp (disch := first | exact rs_n11 rfl | exact rs_n01 | exact Nat.le_refl _ | exact rs_m11 rfl | exact rs_m01 rfl | exact rs_q11 rfl | exact rs_q01 rfl | exact rs_q10 rfl | exact rs_q00 rfl | exact rs_p11 rfl | exact rs_p01 rfl | exact rs_p10 rfl) only [eS20, eS19, rs_ad_k, rs_adm_k, KE_Ro, KF_Ro]) eb18 eb20 rfl
  have ln1_20 : S20.2.2 (b + 1) = 12 := by (simp (disch := first | exact rs_n11 rfl | exact rs_n01 | exact Nat.le_refl _ | exact rs_m11 rfl | exact rs_m01 rfl | exact rs_q11 rfl | exact rs_q01 rfl | exact rs_q10 rfl | exact rs_q00 rfl | exact rs_p11 rfl | exact rs_p01 rfl | exact rs_p10 rfl) only [eS20, eS19, rs_ad_l, rs_adm_l, KE_Ro, KF_Ro]); exact ln1_18
  have ok26_20 : rs_Ok S20 8 (b + 26) := rs_okup (n := 26) (n' := 28) ok26_19 (by simp (disch := first | exact rs_n11 rfl | exact rs_n01 | exact Nat.le_refl _ | exact rs_m11 rfl | exact rs_m01 rfl | exact rs_q11 rfl | exact rs_q01 rfl | exact rs_q10 rfl | exact rs_q00 rfl | exact rs_p11 rfl | exact rs_p01 rfl | exact rs_p10 rfl) only [eS20, rs_ad_k, rs_adm_k, KE_Ro, KF_Ro]) eb19 eb20 rfl
  refine rs_aastZ C hH hS (Or.inr ⟨rfl, rfl⟩) ok1_20 ok26_20 (show vp_in (7 : Int32) (S20.2.2 (b + 1)) by rw [ln1_20]; unfold vp_in; decide) d_In_init_57 (rs_cast C.2.2.2.2.2.2.1 (by decide)) (fun σ20 H locs eM20 hH hS => ?_)
  replace eM20 : σ20 = rs_sR σ19 (b + 1) 7 (b + 26) := by rw [eM20, show ((7 : Int32)).toNatClampNeg = 7 from by decide]
  refine lv_iinc hx hb d_In_init_58 hl (k := 0) rfl (v := (8 : Int32)) (by decide) (by decide) (lv' := [(1, .int (8 : Int32)), (0, .ref (Bm + b))]) rfl (fun ls hl => ?_)
  refine lv_goto hx hb d_In_init_61 (tgt := 39) rfl ?_
  refine lv_iload_n hx hb d_In_init_39 rfl (lv_at hl 0 rfl) ?_
  refine lv_bipush hx hb d_In_init_40 kb_12 ?_
  refine lv_icmp_ge hx hb d_In_init_42 (tgt := 64) rfl (fun hc => absurd hc (by decide)) (fun _ => ?_)
  refine lv_aload_n hx hb d_In_init_45 rfl (lv_at hl 1 rfl) ?_
  have fd0_0_9 : rs_R σ20 b 0 = (b + 1) := by (simp (disch := first | exact rs_n11 rfl | exact rs_n01 | exact Nat.le_refl _ | exact rs_m11 rfl | exact rs_m01 rfl | exact rs_q11 rfl | exact rs_q01 rfl | exact rs_q10 rfl | exact rs_q00 rfl | exact rs_p11 rfl | exact rs_p01 rfl | exact rs_p10 rfl) only [eM20, eM19, rs_Rother, rs_RI, rs_Rmul, KO_Ro]); exact fd0_0_8
  have ok0_20 : rs_Ok S20 3 b := rs_okup (n := 25) (n' := 28) ok0_18 (by simp (disch := first | exact rs_n11 rfl | exact rs_n01 | exact Nat.le_refl _ | exact rs_m11 rfl | exact rs_m01 rfl | exact rs_q11 rfl | exact rs_q01 rfl | exact rs_q10 rfl | exact rs_q00 rfl | exact rs_p11 rfl | exact rs_p01 rfl | exact rs_p10 rfl) only [eS20, eS19, rs_ad_k, rs_adm_k, KE_Ro, KF_Ro]) eb18 eb20 rfl
  refine rs_getVZ C hH (kd := 3) (k := 0) (kr := 25) ok0_20 (by decide) fd0_0_9 ok1_20 tw_237 d_In_init_46 ?_
  refine lv_iload_n hx hb d_In_init_49 rfl (lv_at hl 0 rfl) ?_
  refine rs_newo C hH hS (kd := 8) (by decide) (by decide) tw_234 tw_57 tw_3 (Nat.le_of_ble_eq_true rfl) (Nat.le_of_ble_eq_true rfl) d_In_init_50 (fun S21 vv H eS21 ev okv hH hS => ?_)
  replace eS21 : S21 = rs_ad (b + 28) S20 8 0 := rs_ad_of eS21 eb20
  have eb21 : S21.1 = (b + 29) := by rw [eS21]; rfl
  obtain rfl : vv = (b + 29) := rs_vv ev eb20
  clear ev
  have ok29_21 := okv
  clear okv
  refine lv_dup hx hb d_In_init_53 rfl ?_
  refine rs_cvZ (rs_runIZ C hi.2 hH hl (J_Ro_init l eb21 ok29_21) rc_Ro_init rfl tw_236 tw_59 rfl ⟨⟨rfl, rfl⟩, ⟨by decide, by decide⟩, Nat.le_of_ble_eq_true rfl, Nat.le_of_ble_eq_true rfl⟩ (Nat.le_of_ble_eq_true rfl) rfl d_In_init_54) hS (fun S22 σ21 H locs hH hS hq => ?_)
  obtain ⟨eS22, eM21⟩ := hq
  have eb22 : S22.1 = (b + 31) := by rw [eS22]; rfl
  have ok1_22 : rs_Ok S22 25 (b + 1) := rs_okup (n := 28) (n' := 31) ok1_20 (by simp (disch := first | exact rs_n11 rfl | exact rs_n01 | exact Nat.le_refl _ | exact rs_m11 rfl | exact rs_m01 rfl | exact rs_q11 rfl | exact rs_q01 rfl | exact rs_q10 rfl | exact rs_q00 rfl | exact rs_p11 rfl | exact rs_p01 rfl | exact rs_p10 rfl) only [eS22, eS21, rs_ad_k, rs_adm_k, KE_Ro, KF_Ro]) eb20 eb22 rfl
  have ln1_22 : S22.2.2 (b + 1) = 12 := by (simp (disch := first | exact rs_n11 rfl | exact rs_n01 | exact Nat.le_refl _ | exact rs_m11 rfl | exact rs_m01 rfl | exact rs_q11 rfl | exact rs_q01 rfl | exact rs_q10 rfl | exact rs_q00 rfl | exact rs_p11 rfl | exact rs_p01 rfl | exact rs_p10 rfl) only [eS22, eS21, rs_ad_l, rs_adm_l, KE_Ro, KF_Ro]); exact ln1_20
  have ok29_22 : rs_Ok S22 8 (b + 29) := rs_okup (n := 29) (n' := 31) ok29_21 (by simp (disch := first | exact rs_n11 rfl | exact rs_n01 | exact Nat.le_refl _ | exact rs_m11 rfl | exact rs_m01 rfl | exact rs_q11 rfl | exact rs_q01 rfl | exact rs_q10 rfl | exact rs_q00 rfl | exact rs_p11 rfl | exact rs_p01 rfl | exact rs_p10 rfl) only [eS22, rs_ad_k, rs_adm_k, KE_Ro, KF_Ro]) eb21 eb22 rfl
  refine rs_aastZ C hH hS (Or.inr ⟨rfl, rfl⟩) ok1_22 ok29_22 (show vp_in (8 : Int32) (S22.2.2 (b + 1)) by rw [ln1_22]; unfold vp_in; decide) d_In_init_57 (rs_cast C.2.2.2.2.2.2.1 (by decide)) (fun σ22 H locs eM22 hH hS => ?_)
  replace eM22 : σ22 = rs_sR σ21 (b + 1) 8 (b + 29) := by rw [eM22, show ((8 : Int32)).toNatClampNeg = 8 from by decide]
  refine lv_iinc hx hb d_In_init_58 hl (k := 0) rfl (v := (9 : Int32)) (by decide) (by decide) (lv' := [(1, .int (9 : Int32)), (0, .ref (Bm + b))]) rfl (fun ls hl => ?_)
  refine lv_goto hx hb d_In_init_61 (tgt := 39) rfl ?_
  refine lv_iload_n hx hb d_In_init_39 rfl (lv_at hl 0 rfl) ?_
  refine lv_bipush hx hb d_In_init_40 kb_12 ?_
  refine lv_icmp_ge hx hb d_In_init_42 (tgt := 64) rfl (fun hc => absurd hc (by decide)) (fun _ => ?_)
  refine lv_aload_n hx hb d_In_init_45 rfl (lv_at hl 1 rfl) ?_
  have fd0_0_10 : rs_R σ22 b 0 = (b + 1) := by (simp (disch := first | exact rs_n11 rfl | exact rs_n01 | exact Nat.le_refl _ | exact rs_m11 rfl | exact rs_m01 rfl | exact rs_q11 rfl | exact rs_q01 rfl | exact rs_q10 rfl | exact rs_q00 rfl | exact rs_p11 rfl | exact rs_p01 rfl | exact rs_p10 rfl) only [eM22, eM21, rs_Rother, rs_RI, rs_Rmul, KO_Ro]); exact fd0_0_9
  have ok0_22 : rs_Ok S22 3 b := rs_okup (n := 28) (n' := 31) ok0_20 (by simp (disch := first | exact rs_n11 rfl | exact rs_n01 | exact Nat.le_refl _ | exact rs_m11 rfl | exact rs_m01 rfl | exact rs_q11 rfl | exact rs_q01 rfl | exact rs_q10 rfl | exact rs_q00 rfl | exact rs_p11 rfl | exact rs_p01 rfl | exact rs_p10 rfl) only [eS22, eS21, rs_ad_k, rs_adm_k, KE_Ro, KF_Ro]) eb20 eb22 rfl
  refine rs_getVZ C hH (kd := 3) (k := 0) (kr := 25) ok0_22 (by decide) fd0_0_10 ok1_22 tw_237 d_In_init_46 ?_
  refine lv_iload_n hx hb d_In_init_49 rfl (lv_at hl 0 rfl) ?_
  refine rs_newo C hH hS (kd := 8) (by decide) (by decide) tw_234 tw_57 tw_3 (Nat.le_of_ble_eq_true rfl) (Nat.le_of_ble_eq_true rfl) d_In_init_50 (fun S23 vv H eS23 ev okv hH hS => ?_)
  replace eS23 : S23 = rs_ad (b + 31) S22 8 0 := rs_ad_of eS23 eb22
  have eb23 : S23.1 = (b + 32) := by rw [eS23]; rfl
  obtain rfl : vv = (b + 32) := rs_vv ev eb22
  clear ev
  have ok32_23 := okv
  clear okv
  refine lv_dup hx hb d_In_init_53 rfl ?_
  refine rs_cvZ (rs_runIZ C hi.2 hH hl (J_Ro_init l eb23 ok32_23) rc_Ro_init rfl tw_236 tw_59 rfl ⟨⟨rfl, rfl⟩, ⟨by decide, by decide⟩, Nat.le_of_ble_eq_true rfl, Nat.le_of_ble_eq_true rfl⟩ (Nat.le_of_ble_eq_true rfl) rfl d_In_init_54) hS (fun S24 σ23 H locs hH hS hq => ?_)
  obtain ⟨eS24, eM23⟩ := hq
  have eb24 : S24.1 = (b + 34) := by rw [eS24]; rfl
  have ok1_24 : rs_Ok S24 25 (b + 1) := rs_okup (n := 31) (n' := 34) ok1_22 (by simp (disch := first | exact rs_n11 rfl | exact rs_n01 | exact Nat.le_refl _ | exact rs_m11 rfl | exact rs_m01 rfl | exact rs_q11 rfl | exact rs_q01 rfl | exact rs_q10 rfl | exact rs_q00 rfl | exact rs_p11 rfl | exact rs_p01 rfl | exact rs_p10 rfl) only [eS24, eS23, rs_ad_k, rs_adm_k, KE_Ro, KF_Ro]) eb22 eb24 rfl
  have ln1_24 : S24.2.2 (b + 1) = 12 := by (simp (disch := first | exact rs_n11 rfl | exact rs_n01 | exact Nat.le_refl _ | exact rs_m11 rfl | exact rs_m01 rfl | exact rs_q11 rfl | exact rs_q01 rfl | exact rs_q10 rfl | exact rs_q00 rfl | exact rs_p11 rfl | exact rs_p01 rfl | exact rs_p10 rfl) only [eS24, eS23, rs_ad_l, rs_adm_l, KE_Ro, KF_Ro]); exact ln1_22
  have ok32_24 : rs_Ok S24 8 (b + 32) := rs_okup (n := 32) (n' := 34) ok32_23 (by simp (disch := first | exact rs_n11 rfl | exact rs_n01 | exact Nat.le_refl _ | exact rs_m11 rfl | exact rs_m01 rfl | exact rs_q11 rfl | exact rs_q01 rfl | exact rs_q10 rfl | exact rs_q00 rfl | exact rs_p11 rfl | exact rs_p01 rfl | exact rs_p10 rfl) only [eS24, rs_ad_k, rs_adm_k, KE_Ro, KF_Ro]) eb23 eb24 rfl
  refine rs_aastZ C hH hS (Or.inr ⟨rfl, rfl⟩) ok1_24 ok32_24 (show vp_in (9 : Int32) (S24.2.2 (b + 1)) by rw [ln1_24]; unfold vp_in; decide) d_In_init_57 (rs_cast C.2.2.2.2.2.2.1 (by decide)) (fun σ24 H locs eM24 hH hS => ?_)
  replace eM24 : σ24 = rs_sR σ23 (b + 1) 9 (b + 32) := by rw [eM24, show ((9 : Int32)).toNatClampNeg = 9 from by decide]
  refine lv_iinc hx hb d_In_init_58 hl (k := 0) rfl (v := (10 : Int32)) (by decide) (by decide) (lv' := [(1, .int (10 : Int32)), (0, .ref (Bm + b))]) rfl (fun ls hl => ?_)
  refine lv_goto hx hb d_In_init_61 (tgt := 39) rfl ?_
  refine lv_iload_n hx hb d_In_init_39 rfl (lv_at hl 0 rfl) ?_
  refine lv_bipush hx hb d_In_init_40 kb_12 ?_
  refine lv_icmp_ge hx hb d_In_init_42 (tgt := 64) rfl (fun hc => absurd hc (by decide)) (fun _ => ?_)
  refine lv_aload_n hx hb d_In_init_45 rfl (lv_at hl 1 rfl) ?_
  have fd0_0_11 : rs_R σ24 b 0 = (b + 1) := by (simp (disch := first | exact rs_n11 rfl | exact rs_n01 | exact Nat.le_refl _ | exact rs_m11 rfl | exact rs_m01 rfl | exact rs_q11 rfl | exact rs_q01 rfl | exact rs_q10 rfl | exact rs_q00 rfl | exact rs_p11 rfl | exact rs_p01 rfl | exact rs_p10 rfl) only [eM24, eM23, rs_Rother, rs_RI, rs_Rmul, KO_Ro]); exact fd0_0_10
  have ok0_24 : rs_Ok S24 3 b := rs_okup (n := 31) (n' := 34) ok0_22 (by simp (disch := first | exact rs_n11 rfl | exact rs_n01 | exact Nat.le_refl _ | exact rs_m11 rfl | exact rs_m01 rfl | exact rs_q11 rfl | exact rs_q01 rfl | exact rs_q10 rfl | exact rs_q00 rfl | exact rs_p11 rfl | exact rs_p01 rfl | exact rs_p10 rfl) only [eS24, eS23, rs_ad_k, rs_adm_k, KE_Ro, KF_Ro]) eb22 eb24 rfl
  refine rs_getVZ C hH (kd := 3) (k := 0) (kr := 25) ok0_24 (by decide) fd0_0_11 ok1_24 tw_237 d_In_init_46 ?_
  refine lv_iload_n hx hb d_In_init_49 rfl (lv_at hl 0 rfl) ?_
  refine rs_newo C hH hS (kd := 8) (by decide) (by decide) tw_234 tw_57 tw_3 (Nat.le_of_ble_eq_true rfl) (Nat.le_of_ble_eq_true rfl) d_In_init_50 (fun S25 vv H eS25 ev okv hH hS => ?_)
  replace eS25 : S25 = rs_ad (b + 34) S24 8 0 := rs_ad_of eS25 eb24
  have eb25 : S25.1 = (b + 35) := by rw [eS25]; rfl
  obtain rfl : vv = (b + 35) := rs_vv ev eb24
  clear ev
  have ok35_25 := okv
  clear okv
  refine lv_dup hx hb d_In_init_53 rfl ?_
  refine rs_cvZ (rs_runIZ C hi.2 hH hl (J_Ro_init l eb25 ok35_25) rc_Ro_init rfl tw_236 tw_59 rfl ⟨⟨rfl, rfl⟩, ⟨by decide, by decide⟩, Nat.le_of_ble_eq_true rfl, Nat.le_of_ble_eq_true rfl⟩ (Nat.le_of_ble_eq_true rfl) rfl d_In_init_54) hS (fun S26 σ25 H locs hH hS hq => ?_)
  obtain ⟨eS26, eM25⟩ := hq
  have eb26 : S26.1 = (b + 37) := by rw [eS26]; rfl
  have ok1_26 : rs_Ok S26 25 (b + 1) := rs_okup (n := 34) (n' := 37) ok1_24 (by simp (disch := first | exact rs_n11 rfl | exact rs_n01 | exact Nat.le_refl _ | exact rs_m11 rfl | exact rs_m01 rfl | exact rs_q11 rfl | exact rs_q01 rfl | exact rs_q10 rfl | exact rs_q00 rfl | exact rs_p11 rfl | exact rs_p01 rfl | exact rs_p10 rfl) only [eS26, eS25, rs_ad_k, rs_adm_k, KE_Ro, KF_Ro]) eb24 eb26 rfl
  have ln1_26 : S26.2.2 (b + 1) = 12 := by (simp (disch := first | exact rs_n11 rfl | exact rs_n01 | exact Nat.le_refl _ | exact rs_m11 rfl | exact rs_m01 rfl | exact rs_q11 rfl | exact rs_q01 rfl | exact rs_q10 rfl | exact rs_q00 rfl | exact rs_p11 rfl | exact rs_p01 rfl | exact rs_p10 rfl) only [eS26, eS25, rs_ad_l, rs_adm_l, KE_Ro, KF_Ro]); exact ln1_24
  have ok35_26 : rs_Ok S26 8 (b + 35) := rs_okup (n := 35) (n' := 37) ok35_25 (by simp (disch := first | exact rs_n11 rfl | exact rs_n01 | exact Nat.le_refl _ | exact rs_m11 rfl | exact rs_m01 rfl | exact rs_q11 rfl | exact rs_q01 rfl | exact rs_q10 rfl | exact rs_q00 rfl | exact rs_p11 rfl | exact rs_p01 rfl | exact rs_p10 rfl) only [eS26, rs_ad_k, rs_adm_k, KE_Ro, KF_Ro]) eb25 eb26 rfl
  refine rs_aastZ C hH hS (Or.inr ⟨rfl, rfl⟩) ok1_26 ok35_26 (show vp_in (10 : Int32) (S26.2.2 (b + 1)) by rw [ln1_26]; unfold vp_in; decide) d_In_init_57 (rs_cast C.2.2.2.2.2.2.1 (by decide)) (fun σ26 H locs eM26 hH hS => ?_)
  replace eM26 : σ26 = rs_sR σ25 (b + 1) 10 (b + 35) := by rw [eM26, show ((10 : Int32)).toNatClampNeg = 10 from by decide]
  refine lv_iinc hx hb d_In_init_58 hl (k := 0) rfl (v := (11 : Int32)) (by decide) (by decide) (lv' := [(1, .int (11 : Int32)), (0, .ref (Bm + b))]) rfl (fun ls hl => ?_)
  refine lv_goto hx hb d_In_init_61 (tgt := 39) rfl ?_
  refine lv_iload_n hx hb d_In_init_39 rfl (lv_at hl 0 rfl) ?_
  refine lv_bipush hx hb d_In_init_40 kb_12 ?_
  refine lv_icmp_ge hx hb d_In_init_42 (tgt := 64) rfl (fun hc => absurd hc (by decide)) (fun _ => ?_)
  refine lv_aload_n hx hb d_In_init_45 rfl (lv_at hl 1 rfl) ?_
  have fd0_0_12 : rs_R σ26 b 0 = (b + 1) := by (simp (disch := first | exact rs_n11 rfl | exact rs_n01 | exact Nat.le_refl _ | exact rs_m11 rfl | exact rs_m01 rfl | exact rs_q11 rfl | exact rs_q01 rfl | exact rs_q10 rfl | exact rs_q00 rfl | exact rs_p11 rfl | exact rs_p01 rfl | exact rs_p10 rfl) only [eM26, eM25, rs_Rother, rs_RI, rs_Rmul, KO_Ro]); exact fd0_0_11
  have ok0_26 : rs_Ok S26 3 b := rs_okup (n := 34) (n' := 37) ok0_24 (by simp (disch := first | exact rs_n11 rfl | exact rs_n01 | exact Nat.le_refl _ | exact rs_m11 rfl | exact rs_m01 rfl | exact rs_q11 rfl | exact rs_q01 rfl | exact rs_q10 rfl | exact rs_q00 rfl | exact rs_p11 rfl | exact rs_p01 rfl | exact rs_p10 rfl) only [eS26, eS25, rs_ad_k, rs_adm_k, KE_Ro, KF_Ro]) eb24 eb26 rfl
  refine rs_getVZ C hH (kd := 3) (k := 0) (kr := 25) ok0_26 (by decide) fd0_0_12 ok1_26 tw_237 d_In_init_46 ?_
  refine lv_iload_n hx hb d_In_init_49 rfl (lv_at hl 0 rfl) ?_
  refine rs_newo C hH hS (kd := 8) (by decide) (by decide) tw_234 tw_57 tw_3 (Nat.le_of_ble_eq_true rfl) (Nat.le_of_ble_eq_true rfl) d_In_init_50 (fun S27 vv H eS27 ev okv hH hS => ?_)
  replace eS27 : S27 = rs_ad (b + 37) S26 8 0 := rs_ad_of eS27 eb26
  have eb27 : S27.1 = (b + 38) := by rw [eS27]; rfl
  obtain rfl : vv = (b + 38) := rs_vv ev eb26
  clear ev
  have ok38_27 := okv
  clear okv
  refine lv_dup hx hb d_In_init_53 rfl ?_
  refine rs_cvZ (rs_runIZ C hi.2 hH hl (J_Ro_init l eb27 ok38_27) rc_Ro_init rfl tw_236 tw_59 rfl ⟨⟨rfl, rfl⟩, ⟨by decide, by decide⟩, Nat.le_of_ble_eq_true rfl, Nat.le_of_ble_eq_true rfl⟩ (Nat.le_of_ble_eq_true rfl) rfl d_In_init_54) hS (fun S28 σ27 H locs hH hS hq => ?_)
  obtain ⟨eS28, eM27⟩ := hq
  have eb28 : S28.1 = (b + 40) := by rw [eS28]; rfl
  have ok1_28 : rs_Ok S28 25 (b + 1) := rs_okup (n := 37) (n' := 40) ok1_26 (by simp (disch := first | exact rs_n11 rfl | exact rs_n01 | exact Nat.le_refl _ | exact rs_m11 rfl | exact rs_m01 rfl | exact rs_q11 rfl | exact rs_q01 rfl | exact rs_q10 rfl | exact rs_q00 rfl | exact rs_p11 rfl | exact rs_p01 rfl | exact rs_p10 rfl) only [eS28, eS27, rs_ad_k, rs_adm_k, KE_Ro, KF_Ro]) eb26 eb28 rfl
  have ln1_28 : S28.2.2 (b + 1) = 12 := by (simp (disch := first | exact rs_n11 rfl | exact rs_n01 | exact Nat.le_refl _ | exact rs_m11 rfl | exact rs_m01 rfl | exact rs_q11 rfl | exact rs_q01 rfl | exact rs_q10 rfl | exact rs_q00 rfl | exact rs_p11 rfl | exact rs_p01 rfl | exact rs_p10 rfl) only [eS28, eS27, rs_ad_l, rs_adm_l, KE_Ro, KF_Ro]); exact ln1_26
  have ok38_28 : rs_Ok S28 8 (b + 38) := rs_okup (n := 38) (n' := 40) ok38_27 (by simp (disch := first | exact rs_n11 rfl | exact rs_n01 | exact Nat.le_refl _ | exact rs_m11 rfl | exact rs_m01 rfl | exact rs_q11 rfl | exact rs_q01 rfl | exact rs_q10 rfl | exact rs_q00 rfl | exact rs_p11 rfl | exact rs_p01 rfl | exact rs_p10 rfl) only [eS28, rs_ad_k, rs_adm_k, KE_Ro, KF_Ro]) eb27 eb28 rfl
  refine rs_aastZ C hH hS (Or.inr ⟨rfl, rfl⟩) ok1_28 ok38_28 (show vp_in (11 : Int32) (S28.2.2 (b + 1)) by rw [ln1_28]; unfold vp_in; decide) d_In_init_57 (rs_cast C.2.2.2.2.2.2.1 (by decide)) (fun σ28 H locs eM28 hH hS => ?_)
  replace eM28 : σ28 = rs_sR σ27 (b + 1) 11 (b + 38) := by rw [eM28, show ((11 : Int32)).toNatClampNeg = 11 from by decide]
  refine lv_iinc hx hb d_In_init_58 hl (k := 0) rfl (v := (12 : Int32)) (by decide) (by decide) (lv' := [(1, .int (12 : Int32)), (0, .ref (Bm + b))]) rfl (fun ls hl => ?_)
  refine lv_goto hx hb d_In_init_61 (tgt := 39) rfl ?_
  refine lv_iload_n hx hb d_In_init_39 rfl (lv_at hl 0 rfl) ?_
  refine lv_bipush hx hb d_In_init_40 kb_12 ?_
  refine lv_icmp_ge hx hb d_In_init_42 (tgt := 64) rfl (fun _ => ?_) (fun hc => absurd (by decide) hc)
  exact rs_vretZ C hH hS ⟨by unfold KS_In; rw [eS28, eS27, eS26, eS25, eS24, eS23, eS22, eS21, eS20, eS19, eS18, eS17, eS16, eS15, eS14, eS13, eS12, eS11, eS10, eS9, eS8, eS7, eS6, eS5, eS4, eS3, eS2, eS1], by unfold KM_In; rw [eM28, eM27, eM26, eM25, eM24, eM23, eM22, eM21, eM20, eM19, eM18, eM17, eM16, eM15, eM14, eM13, eM12, eM11, eM10, eM9, eM8, eM7, eM6, eM5, eM4, eM3, eM2, eM1]⟩ (Nat.le_of_ble_eq_true rfl) (Nat.le_of_ble_eq_true rfl) d_In_init_64
