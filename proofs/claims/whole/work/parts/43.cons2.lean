/-! RouteSpeaker$Peer.<init>(I)V : 62 cells -/
theorem d_Pe_init_0 : decode prog_6_method_1_code 0 = .ok (.aload_n 0, 1) := by decide +kernel
theorem d_Pe_init_1 : decode prog_6_method_1_code 1 = .ok (.invokespecial 3, 3) := by decide +kernel
theorem d_Pe_init_4 : decode prog_6_method_1_code 4 = .ok (.aload_n 0, 1) := by decide +kernel
theorem d_Pe_init_5 : decode prog_6_method_1_code 5 = .ok (.iconst (-1), 1) := by decide +kernel
theorem d_Pe_init_6 : decode prog_6_method_1_code 6 = .ok (.putfield 9, 3) := by decide +kernel
theorem d_Pe_init_9 : decode prog_6_method_1_code 9 = .ok (.aload_n 0, 1) := by decide +kernel
theorem d_Pe_init_10 : decode prog_6_method_1_code 10 = .ok (.new 15, 3) := by decide +kernel
theorem d_Pe_init_13 : decode prog_6_method_1_code 13 = .ok (.dup, 1) := by decide +kernel
theorem d_Pe_init_14 : decode prog_6_method_1_code 14 = .ok (.invokespecial 17, 3) := by decide +kernel
theorem d_Pe_init_17 : decode prog_6_method_1_code 17 = .ok (.putfield 18, 3) := by decide +kernel
theorem d_Pe_init_20 : decode prog_6_method_1_code 20 = .ok (.aload_n 0, 1) := by decide +kernel
theorem d_Pe_init_21 : decode prog_6_method_1_code 21 = .ok (.bipush (60), 2) := by decide +kernel
theorem d_Pe_init_23 : decode prog_6_method_1_code 23 = .ok (.newarray .int, 2) := by decide +kernel
theorem d_Pe_init_25 : decode prog_6_method_1_code 25 = .ok (.putfield 22, 3) := by decide +kernel
theorem d_Pe_init_28 : decode prog_6_method_1_code 28 = .ok (.aload_n 0, 1) := by decide +kernel
theorem d_Pe_init_29 : decode prog_6_method_1_code 29 = .ok (.new 26, 3) := by decide +kernel
theorem d_Pe_init_32 : decode prog_6_method_1_code 32 = .ok (.dup, 1) := by decide +kernel
theorem d_Pe_init_33 : decode prog_6_method_1_code 33 = .ok (.invokespecial 28, 3) := by decide +kernel
theorem d_Pe_init_36 : decode prog_6_method_1_code 36 = .ok (.putfield 29, 3) := by decide +kernel
theorem d_Pe_init_39 : decode prog_6_method_1_code 39 = .ok (.aload_n 0, 1) := by decide +kernel
theorem d_Pe_init_40 : decode prog_6_method_1_code 40 = .ok (.bipush (6), 2) := by decide +kernel
theorem d_Pe_init_42 : decode prog_6_method_1_code 42 = .ok (.newarray .int, 2) := by decide +kernel
theorem d_Pe_init_44 : decode prog_6_method_1_code 44 = .ok (.putfield 33, 3) := by decide +kernel
theorem d_Pe_init_47 : decode prog_6_method_1_code 47 = .ok (.aload_n 0, 1) := by decide +kernel
theorem d_Pe_init_48 : decode prog_6_method_1_code 48 = .ok (.new 36, 3) := by decide +kernel
theorem d_Pe_init_51 : decode prog_6_method_1_code 51 = .ok (.dup, 1) := by decide +kernel
theorem d_Pe_init_52 : decode prog_6_method_1_code 52 = .ok (.invokespecial 38, 3) := by decide +kernel
theorem d_Pe_init_55 : decode prog_6_method_1_code 55 = .ok (.putfield 39, 3) := by decide +kernel
theorem d_Pe_init_58 : decode prog_6_method_1_code 58 = .ok (.aload_n 0, 1) := by decide +kernel
theorem d_Pe_init_59 : decode prog_6_method_1_code 59 = .ok (.bipush (12), 2) := by decide +kernel
theorem d_Pe_init_61 : decode prog_6_method_1_code 61 = .ok (.bipush (40), 2) := by decide +kernel
theorem d_Pe_init_63 : decode prog_6_method_1_code 63 = .ok (.multianewarray 43 2, 4) := by decide +kernel
theorem d_Pe_init_67 : decode prog_6_method_1_code 67 = .ok (.putfield 45, 3) := by decide +kernel
theorem d_Pe_init_70 : decode prog_6_method_1_code 70 = .ok (.aload_n 0, 1) := by decide +kernel
theorem d_Pe_init_71 : decode prog_6_method_1_code 71 = .ok (.iload_n 1, 1) := by decide +kernel
theorem d_Pe_init_72 : decode prog_6_method_1_code 72 = .ok (.putfield 48, 3) := by decide +kernel
theorem d_Pe_init_75 : decode prog_6_method_1_code 75 = .ok (.return_, 1) := by decide +kernel
def KS_Pe (b : Nat) (S : rs_Shp) : rs_Shp := (rs_adm (b + 49) (KS_In (b + 9) (rs_ad (b + 8) (rs_ad (b + 7) (KS_Ob (b + 6) (rs_ad (b + 5) (rs_ad (b + 4) (KS_Ru (b + 1) (rs_ad b S 9 0)) 20 60) 5 0)) 20 6) 3 0)) 12 40)
def KM_Pe (b : Nat) (x1 : Int32) (σ : rs_Mem) : rs_Mem := (rs_sI (rs_sR (rs_mul (rs_sR (KM_In (b + 9) (rs_sR (rs_sR (KM_Ob (b + 6) (rs_sR (rs_sR (KM_Ru (b + 1) (rs_sI σ b 3 (-1 : Int32))) b 5 (b + 1)) b 12 (b + 5))) b 13 (b + 6)) b 14 (b + 8))) b 15 (b + 9)) (b + 50) 12) b 16 (b + 50)) b 1 x1)
theorem KE_Pe {b v : Nat} {S : rs_Shp} (h : v ≤ b) : (KS_Pe b S).2.1 v = S.2.1 v := by
  simp (disch := omega) only [KS_Pe, rs_ad_k, rs_adm_k, KE_In, KE_Ob, KE_Ru]
theorem KF_Pe {b v : Nat} {S : rs_Shp} (h : v ≤ b) : (KS_Pe b S).2.2 v = S.2.2 v := by
  simp (disch := omega) only [KS_Pe, rs_ad_l, rs_adm_l, KF_In, KF_Ob, KF_Ru]
theorem KO_Pe {b u j : Nat} {x1 : Int32} {σ : rs_Mem} (h : u < b) : rs_R (KM_Pe b x1 σ) u j = rs_R σ u j := by
  simp (disch := omega) only [KM_Pe, rs_Rother, rs_RI, rs_Rmul, KO_In, KO_Ob, KO_Ru]
abbrev y_Pe_init : MethodName := ({ cls := "RouteSpeaker$Peer", name := "<init>", desc := "(I)V" } : Jvm.MethodName)
theorem rc_Pe_init : rs_Cal y_Pe_init prog_6_method_1_code 2 none 1 := ⟨tw_190, tw_7, by decide, by decide, by decide +kernel⟩
set_option maxRecDepth 100000 in
set_option maxHeartbeats 8000000 in
theorem J_Pe_init (l : Launch) {G : rs_G} {Bm b : Nat} {x1 : Int32} {S : rs_Shp} {σ : rs_Mem} (eb0 : S.1 = b) (hk : rs_Ok S 6 b) :
    Met l y_Pe_init (rs_ws y_Pe_init prog_6_method_1_code 2 none) { frames := 3, cells := 62, slots := 1102, locals := 81 } (rs_PZ G Bm S σ [.ref (Bm + b), .int x1]) (rs_QZ G Bm (fun S1 σ1 => S1 = KS_Pe b S ∧ σ1 = KM_Pe b x1 σ)) 62 1102 (rs_A Bm) := by
  refine rs_metZ (own := "RouteSpeaker$Peer") (by decide) rfl rfl (Nat.le_of_ble_eq_true rfl) (fun p e s m below meth c ls C hi hl hH hS => ?_)
  replace hl : lv_has ls 2 [(0, .ref (Bm + b)), (1, .int x1)] := hl
  have hx := C.1
  have hb := C.2.1
  have b0 : 0 < b := hk.1
  refine lv_aload_n hx hb d_Pe_init_0 rfl (lv_at hl 0 rfl) ?_
  refine W.objInit hx hb C.2.2.2.2.1 (C.2.2.2.2.2.1 _ tw_191) (C.2.2.2.2.2.1 _ tw_26) (C.2.2.2.2.2.1 _ tw_27) rfl (by rw [C.2.2.1]; exact hl.1) rfl d_Pe_init_1 (Nat.le_of_ble_eq_true rfl) (Nat.le_of_ble_eq_true rfl) ?_
  refine W.eq (g2 := F0 m 4 ls []) rfl ?_
  refine lv_aload_n hx hb d_Pe_init_4 rfl (lv_at hl 0 rfl) ?_
  refine lv_iconst hx hb d_Pe_init_5 ki_m1 ?_
  refine rs_putIZ C hH hS (kd := 6) (k := 3) hk (by decide) rfl tw_260 d_Pe_init_6 (fun σ1 H locs eM1 hH hS => ?_)
  refine lv_aload_n hx hb d_Pe_init_9 rfl (lv_at hl 0 rfl) ?_
  refine rs_newo C hH hS (kd := 9) (by decide) (by decide) tw_192 tw_193 tw_8 (Nat.le_of_ble_eq_true rfl) (Nat.le_of_ble_eq_true rfl) d_Pe_init_10 (fun S1 vv H eS1 ev okv hH hS => ?_)
  replace eS1 : S1 = rs_ad b S 9 0 := rs_ad_of eS1 eb0
  have eb1 : S1.1 = (b + 1) := by rw [eS1]; rfl
  obtain rfl : vv = (b + 1) := rs_vv ev eb0
  clear ev
  have ok1_1 := okv
  clear okv
  refine lv_dup hx hb d_Pe_init_13 rfl ?_
  refine rs_cvZ (rs_runIZ C hi.2 hH hl (J_Ru_init l eb1 ok1_1) rc_Ru_init rfl tw_194 tw_195 rfl ⟨⟨rfl, rfl⟩, ⟨by decide, by decide⟩, Nat.le_of_ble_eq_true rfl, Nat.le_of_ble_eq_true rfl⟩ (Nat.le_of_ble_eq_true rfl) rfl d_Pe_init_14) hS (fun S2 σ2 H locs hH hS hq => ?_)
  obtain ⟨eS2, eM2⟩ := hq
  have eb2 : S2.1 = (b + 4) := by rw [eS2]; rfl
  have ok0_2 : rs_Ok S2 6 b := rs_okup (n := 0) (n' := 4) hk (by simp (disch := first | exact rs_n11 rfl | exact rs_n01 | exact Nat.le_refl _ | exact rs_m11 rfl | exact rs_m01 rfl | exact rs_q11 rfl | exact rs_q01 rfl | exact rs_q10 rfl | exact rs_q00 rfl | exact rs_p11 rfl | exact rs_p01 rfl | exact rs_p10 rfl) only [eS2, eS1, rs_ad_k, rs_adm_k, KE_Ru, KF_Ru]) eb0 eb2 rfl
  have ok1_2 : rs_Ok S2 9 (b + 1) := rs_okup (n := 1) (n' := 4) ok1_1 (by simp (disch := first | exact rs_n11 rfl | exact rs_n01 | exact Nat.le_refl _ | exact rs_m11 rfl | exact rs_m01 rfl | exact rs_q11 rfl | exact rs_q01 rfl | exact rs_q10 rfl | exact rs_q00 rfl | exact rs_p11 rfl | exact rs_p01 rfl | exact rs_p10 rfl) only [eS2, rs_ad_k, rs_adm_k, KE_Ru, KF_Ru]) eb1 eb2 rfl
  refine rs_putRZ C hi hH hS (kd := 6) (k := 5) (kr := 9) ok0_2 (by decide) rfl rfl rfl rfl ok1_2 tw_264 d_Pe_init_17 (fun σ3 H locs eM3 hH hS => ?_)
  have fd0_5 : rs_R σ3 b 5 = (b + 1) := by rw [eM3]; exact rs_Rsame ⟨rfl, rfl⟩
  refine lv_aload_n hx hb d_Pe_init_20 rfl (lv_at hl 0 rfl) ?_
  refine lv_bipush hx hb d_Pe_init_21 kb_60 ?_
  refine rs_newp C hH hS (kd := 20) (N := 60) (atype := .int) ⟨by decide, rfl⟩ tw_52 (by decide) (by decide) (by decide) (Nat.le_of_ble_eq_true rfl) (Nat.le_of_ble_eq_true rfl) d_Pe_init_23 (fun S3 vv H eS3 ev okv hH hS => ?_)
  replace eS3 : S3 = rs_ad (b + 4) S2 20 60 := rs_ad_of eS3 eb2
  have eb3 : S3.1 = (b + 5) := by rw [eS3]; rfl
  obtain rfl : vv = (b + 5) := rs_vv ev eb2
  clear ev
  have ln5_3 : S3.2.2 (b + 5) = 60 := by rw [eS3]; exact if_pos rfl
  have ok5_3 := okv
  clear okv
  have ok0_3 : rs_Ok S3 6 b := rs_okup (n := 4) (n' := 5) ok0_2 (by simp (disch := first | exact rs_n11 rfl | exact rs_n01 | exact Nat.le_refl _ | exact rs_m11 rfl | exact rs_m01 rfl | exact rs_q11 rfl | exact rs_q01 rfl | exact rs_q10 rfl | exact rs_q00 rfl | exact rs_p11 rfl | exact rs_p01 rfl | exact rs_p10 rfl) only [eS3, rs_ad_k, rs_adm_k, KE_Ru, KF_Ru]) eb2 eb3 rfl
  refine rs_putRZ C hi hH hS (kd := 6) (k := 12) (kr := 20) ok0_3 (by decide) rfl rfl rfl rfl ok5_3 tw_278 d_Pe_init_25 (fun σ4 H locs eM4 hH hS => ?_)
  have fd0_12 : rs_R σ4 b 12 = (b + 5) := by rw [eM4]; exact rs_Rsame ⟨rfl, rfl⟩
  refine lv_aload_n hx hb d_Pe_init_28 rfl (lv_at hl 0 rfl) ?_
  refine rs_newo C hH hS (kd := 5) (by decide) (by decide) tw_211 tw_212 tw_9 (Nat.le_of_ble_eq_true rfl) (Nat.le_of_ble_eq_true rfl) d_Pe_init_29 (fun S4 vv H eS4 ev okv hH hS => ?_)
  replace eS4 : S4 = rs_ad (b + 5) S3 5 0 := rs_ad_of eS4 eb3
  have eb4 : S4.1 = (b + 6) := by rw [eS4]; rfl
  obtain rfl : vv = (b + 6) := rs_vv ev eb3
  clear ev
  have ok6_4 := okv
  clear okv
  refine lv_dup hx hb d_Pe_init_32 rfl ?_
  refine rs_cvZ (rs_runIZ C hi.2 hH hl (J_Ob_init l eb4 ok6_4) rc_Ob_init rfl tw_213 tw_214 rfl ⟨⟨rfl, rfl⟩, ⟨by decide, by decide⟩, Nat.le_of_ble_eq_true rfl, Nat.le_of_ble_eq_true rfl⟩ (Nat.le_of_ble_eq_true rfl) rfl d_Pe_init_33) hS (fun S5 σ5 H locs hH hS hq => ?_)
  obtain ⟨eS5, eM5⟩ := hq
  have eb5 : S5.1 = (b + 7) := by rw [eS5]; rfl
  have ok0_5 : rs_Ok S5 6 b := rs_okup (n := 5) (n' := 7) ok0_3 (by simp (disch := first | exact rs_n11 rfl | exact rs_n01 | exact Nat.le_refl _ | exact rs_m11 rfl | exact rs_m01 rfl | exact rs_q11 rfl | exact rs_q01 rfl | exact rs_q10 rfl | exact rs_q00 rfl | exact rs_p11 rfl | exact rs_p01 rfl | exact rs_p10 rfl) only [eS5, eS4, rs_ad_k, rs_adm_k, KE_Ob, KF_Ob, KE_Ru, KF_Ru]) eb3 eb5 rfl
  have ok6_5 : rs_Ok S5 5 (b + 6) := rs_okup (n := 6) (n' := 7) ok6_4 (by simp (disch := first | exact rs_n11 rfl | exact rs_n01 | exact Nat.le_refl _ | exact rs_m11 rfl | exact rs_m01 rfl | exact rs_q11 rfl | exact rs_q01 rfl | exact rs_q10 rfl | exact rs_q00 rfl | exact rs_p11 rfl | exact rs_p01 rfl | exact rs_p10 rfl) only [eS5, rs_ad_k, rs_adm_k, KE_Ob, KF_Ob, KE_Ru, KF_Ru]) eb4 eb5 rfl
  refine rs_putRZ C hi hH hS (kd := 6) (k := 13) (kr := 5) ok0_5 (by decide) rfl rfl rfl rfl ok6_5 tw_279 d_Pe_init_36 (fun σ6 H locs eM6 hH hS => ?_)
  have fd0_13 : rs_R σ6 b 13 = (b + 6) := by rw [eM6]; exact rs_Rsame ⟨rfl, rfl⟩
  refine lv_aload_n hx hb d_Pe_init_39 rfl (lv_at hl 0 rfl) ?_
  refine lv_bipush hx hb d_Pe_init_40 kb_6 ?_
  refine rs_newp C hH hS (kd := 20) (N := 6) (atype := .int) ⟨by decide, rfl⟩ tw_52 (by decide) (by decide) (by decide) (Nat.le_of_ble_eq_true rfl) (Nat.le_of_ble_eq_true rfl) d_Pe_init_42 (fun S6 vv H eS6 ev okv hH hS => ?_)
  replace eS6 : S6 = rs_ad (b + 7) S5 20 6 := rs_ad_of eS6 eb5
  have eb6 : S6.1 = (b + 8) := by rw [eS6]; rfl
  obtain rfl : vv = (b + 8) := rs_vv ev eb5
  clear ev
  have ln8_6 : S6.2.2 (b + 8) = 6 := by rw [eS6]; exact if_pos rfl
  have ok8_6 := okv
  clear okv
  have ok0_6 : rs_Ok S6 6 b := rs_okup (n := 7) (n' := 8) ok0_5 (by simp (disch := first | exact rs_n11 rfl | exact rs_n01 | exact Nat.le_refl _ | exact rs_m11 rfl | exact rs_m01 rfl | exact rs_q11 rfl | exact rs_q01 rfl | exact rs_q10 rfl | exact rs_q00 rfl | exact rs_p11 rfl | exact rs_p01 rfl | exact rs_p10 rfl) only [eS6, rs_ad_k, rs_adm_k, KE_Ob, KF_Ob, KE_Ru, KF_Ru]) eb5 eb6 rfl
  refine rs_putRZ C hi hH hS (kd := 6) (k := 14) (kr := 20) ok0_6 (by decide) rfl rfl rfl rfl ok8_6 tw_281 d_Pe_init_44 (fun σ7 H locs eM7 hH hS => ?_)
  have fd0_14 : rs_R σ7 b 14 = (b + 8) := by rw [eM7]; exact rs_Rsame ⟨rfl, rfl⟩
  refine lv_aload_n hx hb d_Pe_init_47 rfl (lv_at hl 0 rfl) ?_
  refine rs_newo C hH hS (kd := 3) (by decide) (by decide) tw_228 tw_229 tw_10 (Nat.le_of_ble_eq_true rfl) (Nat.le_of_ble_eq_true rfl) d_Pe_init_48 (fun S7 vv H eS7 ev okv hH hS => ?_)
  replace eS7 : S7 = rs_ad (b + 8) S6 3 0 := rs_ad_of eS7 eb6
  have eb7 : S7.1 = (b + 9) := by rw [eS7]; rfl
  obtain rfl : vv = (b + 9) := rs_vv ev eb6
  clear ev
  have ok9_7 := okv
  clear okv
  refine lv_dup hx hb d_Pe_init_51 rfl ?_
  refine rs_cvZ (rs_runIZ C hi.2 hH hl (J_In_init l eb7 ok9_7) rc_In_init rfl tw_230 tw_231 rfl ⟨⟨rfl, rfl⟩, ⟨by decide, by decide⟩, Nat.le_of_ble_eq_true rfl, Nat.le_of_ble_eq_true rfl⟩ (Nat.le_of_ble_eq_true rfl) rfl d_Pe_init_52) hS (fun S8 σ8 H locs hH hS hq => ?_)
  obtain ⟨eS8, eM8⟩ := hq
  have eb8 : S8.1 = (b + 49) := by rw [eS8]; rfl
  have ok0_8 : rs_Ok S8 6 b := rs_okup (n := 8) (n' := 49) ok0_6 (by simp (disch := first | exact rs_n11 rfl | exact rs_n01 | exact Nat.le_refl _ | exact rs_m11 rfl | exact rs_m01 rfl | exact rs_q11 rfl | exact rs_q01 rfl | exact rs_q10 rfl | exact rs_q00 rfl | exact rs_p11 rfl | exact rs_p01 rfl | exact rs_p10 rfl) only [eS8, eS7, rs_ad_k, rs_adm_k, KE_In, KF_In, KE_Ob, KF_Ob, KE_Ru, KF_Ru]) eb6 eb8 rfl
  have ok9_8 : rs_Ok S8 3 (b + 9) := rs_okup (n := 9) (n' := 49) ok9_7 (by simp (disch := first | exact rs_n11 rfl | exact rs_n01 | exact Nat.le_refl _ | exact rs_m11 rfl | exact rs_m01 rfl | exact rs_q11 rfl | exact rs_q01 rfl | exact rs_q10 rfl | exact rs_q00 rfl | exact rs_p11 rfl | exact rs_p01 rfl | exact rs_p10 rfl) only [eS8, rs_ad_k, rs_adm_k, KE_In, KF_In, KE_Ob, KF_Ob, KE_Ru, KF_Ru]) eb7 eb8 rfl
  refine rs_putRZ C hi hH hS (kd := 6) (k := 15) (kr := 3) ok0_8 (by decide) rfl rfl rfl rfl ok9_8 tw_282 d_Pe_init_55 (fun σ9 H locs eM9 hH hS => ?_)
  have fd0_15 : rs_R σ9 b 15 = (b + 9) := by rw [eM9]; exact rs_Rsame ⟨rfl, rfl⟩
  refine lv_aload_n hx hb d_Pe_init_58 rfl (lv_at hl 0 rfl) ?_
  refine lv_bipush hx hb d_Pe_init_59 kb_12 ?_
  refine lv_bipush hx hb d_Pe_init_61 kb_40 ?_
  refine rs_newm C hi.2 hH hS (N := 12) (K := 40) tw_254 tw_52 (by decide) (by decide) (by decide) (by decide) (by decide) (by decide) (by decide) (Nat.le_of_ble_eq_true rfl) (Nat.le_of_ble_eq_true rfl) d_Pe_init_63 (fun S9 σ10 vv H eS9 eM10 ev okv hH hS => ?_)
  replace eM10 : σ10 = rs_mul σ9 (b + 50) 12 := by rw [eM10, eb8]
  replace eS9 : S9 = rs_adm (b + 49) S8 12 40 := rs_adm_of eS9 eb8
  have eb9 : S9.1 = (b + 62) := by rw [eS9]; rfl
  obtain rfl : vv = (b + 50) := rs_vv ev eb8
  clear ev
  have ln50_9 : S9.2.2 (b + 50) = 12 := by rw [eS9]; exact if_pos rfl
  have ok50_9 := okv
  clear okv
  have ok0_9 : rs_Ok S9 6 b := rs_okup (n := 49) (n' := 62) ok0_8 (by simp (disch := first | exact rs_n11 rfl | exact rs_n01 | exact Nat.le_refl _ | exact rs_m11 rfl | exact rs_m01 rfl | exact rs_q11 rfl | exact rs_q01 rfl | exact rs_q10 rfl | exact rs_q00 rfl | exact rs_p11 rfl | exact rs_p01 rfl | exact rs_p10 rfl) only [eS9, rs_ad_k, rs_adm_k, KE_In, KF_In, KE_Ob, KF_Ob, KE_Ru, KF_Ru]) eb8 eb9 rfl
  refine rs_putRZ C hi hH hS (kd := 6) (k := 16) (kr := 26) ok0_9 (by decide) rfl rfl rfl rfl ok50_9 tw_284 d_Pe_init_67 (fun σ11 H locs eM11 hH hS => ?_)
  have fd0_16 : rs_R σ11 b 16 = (b + 50) := by rw [eM11]; exact rs_Rsame ⟨rfl, rfl⟩
  refine lv_aload_n hx hb d_Pe_init_70 rfl (lv_at hl 0 rfl) ?_
  refine lv_iload_n hx hb d_Pe_init_71 rfl (lv_at hl 1 rfl) ?_
  refine rs_putIZ C hH hS (kd := 6) (k := 1) ok0_9 (by decide) rfl tw_257 d_Pe_init_72 (fun σ12 H locs eM12 hH hS => ?_)
  exact rs_vretZ C hH hS ⟨by unfold KS_Pe; rw [eS9, eS8, eS7, eS6, eS5, eS4, eS3, eS2, eS1], by unfold KM_Pe; rw [eM12, eM11, eM10, eM9, eM8, eM7, eM6, eM5, eM4, eM3, eM2, eM1]⟩ (Nat.le_of_ble_eq_true rfl) (Nat.le_of_ble_eq_true rfl) d_Pe_init_75
