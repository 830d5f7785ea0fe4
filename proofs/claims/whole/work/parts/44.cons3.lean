/-! RouteSpeaker.<init>()V : 279 cells -/
theorem d_Sp_init_0 : decode prog_1_method_1_code 0 = .ok (.aload_n 0, 1) := by decide +kernel
theorem d_Sp_init_1 : decode prog_1_method_1_code 1 = .ok (.invokespecial 1, 3) := by decide +kernel
theorem d_Sp_init_4 : decode prog_1_method_1_code 4 = .ok (.aload_n 0, 1) := by decide +kernel
theorem d_Sp_init_5 : decode prog_1_method_1_code 5 = .ok (.new 7, 3) := by decide +kernel
theorem d_Sp_init_8 : decode prog_1_method_1_code 8 = .ok (.dup, 1) := by decide +kernel
theorem d_Sp_init_9 : decode prog_1_method_1_code 9 = .ok (.invokespecial 9, 3) := by decide +kernel
theorem d_Sp_init_12 : decode prog_1_method_1_code 12 = .ok (.putfield 10, 3) := by decide +kernel
theorem d_Sp_init_15 : decode prog_1_method_1_code 15 = .ok (.aload_n 0, 1) := by decide +kernel
theorem d_Sp_init_16 : decode prog_1_method_1_code 16 = .ok (.iconst 4, 1) := by decide +kernel
theorem d_Sp_init_17 : decode prog_1_method_1_code 17 = .ok (.anewarray 16, 3) := by decide +kernel
theorem d_Sp_init_20 : decode prog_1_method_1_code 20 = .ok (.putfield 18, 3) := by decide +kernel
theorem d_Sp_init_23 : decode prog_1_method_1_code 23 = .ok (.aload_n 0, 1) := by decide +kernel
theorem d_Sp_init_24 : decode prog_1_method_1_code 24 = .ok (.new 22, 3) := by decide +kernel
theorem d_Sp_init_27 : decode prog_1_method_1_code 27 = .ok (.dup, 1) := by decide +kernel
theorem d_Sp_init_28 : decode prog_1_method_1_code 28 = .ok (.invokespecial 24, 3) := by decide +kernel
theorem d_Sp_init_31 : decode prog_1_method_1_code 31 = .ok (.putfield 25, 3) := by decide +kernel
theorem d_Sp_init_34 : decode prog_1_method_1_code 34 = .ok (.aload_n 0, 1) := by decide +kernel
theorem d_Sp_init_35 : decode prog_1_method_1_code 35 = .ok (.new 29, 3) := by decide +kernel
theorem d_Sp_init_38 : decode prog_1_method_1_code 38 = .ok (.dup, 1) := by decide +kernel
theorem d_Sp_init_39 : decode prog_1_method_1_code 39 = .ok (.invokespecial 31, 3) := by decide +kernel
theorem d_Sp_init_42 : decode prog_1_method_1_code 42 = .ok (.putfield 32, 3) := by decide +kernel
theorem d_Sp_init_45 : decode prog_1_method_1_code 45 = .ok (.aload_n 0, 1) := by decide +kernel
theorem d_Sp_init_46 : decode prog_1_method_1_code 46 = .ok (.new 36, 3) := by decide +kernel
theorem d_Sp_init_49 : decode prog_1_method_1_code 49 = .ok (.dup, 1) := by decide +kernel
theorem d_Sp_init_50 : decode prog_1_method_1_code 50 = .ok (.invokespecial 38, 3) := by decide +kernel
theorem d_Sp_init_53 : decode prog_1_method_1_code 53 = .ok (.putfield 39, 3) := by decide +kernel
theorem d_Sp_init_56 : decode prog_1_method_1_code 56 = .ok (.aload_n 0, 1) := by decide +kernel
theorem d_Sp_init_57 : decode prog_1_method_1_code 57 = .ok (.new 43, 3) := by decide +kernel
theorem d_Sp_init_60 : decode prog_1_method_1_code 60 = .ok (.dup, 1) := by decide +kernel
theorem d_Sp_init_61 : decode prog_1_method_1_code 61 = .ok (.invokespecial 45, 3) := by decide +kernel
theorem d_Sp_init_64 : decode prog_1_method_1_code 64 = .ok (.putfield 46, 3) := by decide +kernel
theorem d_Sp_init_67 : decode prog_1_method_1_code 67 = .ok (.iconst 0, 1) := by decide +kernel
theorem d_Sp_init_68 : decode prog_1_method_1_code 68 = .ok (.istore_n 1, 1) := by decide +kernel
theorem d_Sp_init_69 : decode prog_1_method_1_code 69 = .ok (.iload_n 1, 1) := by decide +kernel
theorem d_Sp_init_70 : decode prog_1_method_1_code 70 = .ok (.iconst 4, 1) := by decide +kernel
theorem d_Sp_init_71 : decode prog_1_method_1_code 71 = .ok (.if_icmp .ge (27), 3) := by decide +kernel
theorem d_Sp_init_74 : decode prog_1_method_1_code 74 = .ok (.aload_n 0, 1) := by decide +kernel
theorem d_Sp_init_75 : decode prog_1_method_1_code 75 = .ok (.getfield 18, 3) := by decide +kernel
theorem d_Sp_init_78 : decode prog_1_method_1_code 78 = .ok (.iload_n 1, 1) := by decide +kernel
theorem d_Sp_init_79 : decode prog_1_method_1_code 79 = .ok (.new 16, 3) := by decide +kernel
theorem d_Sp_init_82 : decode prog_1_method_1_code 82 = .ok (.dup, 1) := by decide +kernel
theorem d_Sp_init_83 : decode prog_1_method_1_code 83 = .ok (.sipush (200), 3) := by decide +kernel
theorem d_Sp_init_86 : decode prog_1_method_1_code 86 = .ok (.iload_n 1, 1) := by decide +kernel
theorem d_Sp_init_87 : decode prog_1_method_1_code 87 = .ok (.iadd, 1) := by decide +kernel
theorem d_Sp_init_88 : decode prog_1_method_1_code 88 = .ok (.invokespecial 50, 3) := by decide +kernel
theorem d_Sp_init_91 : decode prog_1_method_1_code 91 = .ok (.aastore, 1) := by decide +kernel
theorem d_Sp_init_92 : decode prog_1_method_1_code 92 = .ok (.iinc 1 (1), 3) := by decide +kernel
theorem d_Sp_init_95 : decode prog_1_method_1_code 95 = .ok (.goto (-26), 3) := by decide +kernel
theorem d_Sp_init_98 : decode prog_1_method_1_code 98 = .ok (.aload_n 0, 1) := by decide +kernel
theorem d_Sp_init_99 : decode prog_1_method_1_code 99 = .ok (.getfield 25, 3) := by decide +kernel
theorem d_Sp_init_102 : decode prog_1_method_1_code 102 = .ok (.bipush (7), 2) := by decide +kernel
theorem d_Sp_init_104 : decode prog_1_method_1_code 104 = .ok (.putfield 53, 3) := by decide +kernel
theorem d_Sp_init_107 : decode prog_1_method_1_code 107 = .ok (.return_, 1) := by decide +kernel
def KS_Sp (b : Nat) (S : rs_Shp) : rs_Shp := (KS_Pe (b + 217) (rs_ad (b + 216) (KS_Pe (b + 154) (rs_ad (b + 153) (KS_Pe (b + 91) (rs_ad (b + 90) (KS_Pe (b + 28) (rs_ad (b + 27) (KS_Le (b + 26) (rs_ad (b + 25) (KS_Ch (b + 15) (rs_ad (b + 14) (KS_Up (b + 9) (rs_ad (b + 8) (KS_Ro (b + 6) (rs_ad (b + 5) (rs_ad (b + 4) (KS_Px (b + 1) (rs_ad b S 7 0)) 24 4) 8 0)) 10 0)) 2 0)) 4 0)) 6 0)) 6 0)) 6 0)) 6 0))
def KM_Sp (b : Nat) (σ : rs_Mem) : rs_Mem := (rs_sI (rs_sR (KM_Pe (b + 217) ((200 : Int32) + (3 : Int32)) (rs_sR (KM_Pe (b + 154) ((200 : Int32) + (2 : Int32)) (rs_sR (KM_Pe (b + 91) ((200 : Int32) + (1 : Int32)) (rs_sR (KM_Pe (b + 28) ((200 : Int32) + (0 : Int32)) (rs_sR (KM_Le (b + 26) (rs_sR (KM_Ch (b + 15) (rs_sR (KM_Up (b + 9) (rs_sR (KM_Ro (b + 6) (rs_sR (rs_sR (KM_Px (b + 1) σ) b 0 (b + 1)) b 1 (b + 5))) b 2 (b + 6))) b 3 (b + 9))) b 4 (b + 15))) b 5 (b + 26))) (b + 5) 0 (b + 28))) (b + 5) 1 (b + 91))) (b + 5) 2 (b + 154))) (b + 5) 3 (b + 217)) (b + 6) 3 (7 : Int32))
theorem KE_Sp {b v : Nat} {S : rs_Shp} (h : v ≤ b) : (KS_Sp b S).2.1 v = S.2.1 v := by
  simp (disch := omega) only [KS_Sp, rs_ad_k, rs_adm_k, KE_Ch, KE_Le, KE_Pe, KE_Px, KE_Ro, KE_Up]
theorem KF_Sp {b v : Nat} {S : rs_Shp} (h : v ≤ b) : (KS_Sp b S).2.2 v = S.2.2 v := by
  simp (disch := omega) only [KS_Sp, rs_ad_l, rs_adm_l, KF_Ch, KF_Le, KF_Pe, KF_Px, KF_Ro, KF_Up]
theorem KO_Sp {b u j : Nat} {σ : rs_Mem} (h : u < b) : rs_R (KM_Sp b σ) u j = rs_R σ u j := by
  simp (disch := omega) only [KM_Sp, rs_Rother, rs_RI, rs_Rmul, KO_Ch, KO_Le, KO_Pe, KO_Px, KO_Ro, KO_Up]
abbrev y_Sp_init : MethodName := ({ cls := "RouteSpeaker", name := "<init>", desc := "()V" } : Jvm.MethodName)
theorem rc_Sp_init : rs_Cal y_Sp_init prog_1_method_1_code 2 none 0 := ⟨tw_24, tw_1, by decide, by decide, by decide +kernel⟩
set_option maxRecDepth 100000 in
set_option maxHeartbeats 8000000 in
theorem J_Sp_init (l : Launch) {G : rs_G} {Bm b : Nat} {S : rs_Shp} {σ : rs_Mem} (eb0 : S.1 = b) (hk : rs_Ok S 1 b) :
    Met l y_Sp_init (rs_ws y_Sp_init prog_1_method_1_code 2 none) { frames := 4, cells := 279, slots := 5009, locals := 102 } (rs_PZ G Bm S σ [.ref (Bm + b)]) (rs_QZ G Bm (fun S1 σ1 => S1 = KS_Sp b S ∧ σ1 = KM_Sp b σ)) 279 5009 (rs_A Bm) := by
  refine rs_metZ (own := "RouteSpeaker") (by decide) rfl rfl (Nat.le_of_ble_eq_true rfl) (fun p e s m below meth c ls C hi hl hH hS => ?_)
  replace hl : lv_has ls 2 [(0, .ref (Bm + b))] := hl
  have hx := C.1
  have hb := C.2.1
  have b0 : 0 < b := hk.1
  refine lv_aload_n hx hb d_Sp_init_0 rfl (lv_at hl 0 rfl) ?_
  refine W.objInit hx hb C.2.2.2.2.1 (C.2.2.2.2.2.1 _ tw_25) (C.2.2.2.2.2.1 _ tw_26) (C.2.2.2.2.2.1 _ tw_27) rfl (by rw [C.2.2.1]; exact hl.1) rfl d_Sp_init_1 (Nat.le_of_ble_eq_true rfl) (Nat.le_of_ble_eq_true rfl) ?_
  refine W.eq (g2 := F0 m 4 ls []) rfl ?_
  refine lv_aload_n hx hb d_Sp_init_4 rfl (lv_at hl 0 rfl) ?_
  refine rs_newo C hH hS (kd := 7) (by decide) (by decide) tw_28 tw_29 tw_2 (Nat.le_of_ble_eq_true rfl) (Nat.le_of_ble_eq_true rfl) d_Sp_init_5 (fun S1 vv H eS1 ev okv hH hS => ?_)
  replace eS1 : S1 = rs_ad b S 7 0 := rs_ad_of eS1 eb0
  have eb1 : S1.1 = (b + 1) := by rw [eS1]; rfl
  obtain rfl : vv = (b + 1) := rs_vv ev eb0
  clear ev
  have ok1_1 := okv
  clear okv
  refine lv_dup hx hb d_Sp_init_8 rfl ?_
  refine rs_cvZ (rs_runIZ C hi.2 hH hl (J_Px_init l eb1 ok1_1) rc_Px_init rfl tw_30 tw_31 rfl ⟨⟨rfl, rfl⟩, ⟨by decide, by decide⟩, Nat.le_of_ble_eq_true rfl, Nat.le_of_ble_eq_true rfl⟩ (Nat.le_of_ble_eq_true rfl) rfl d_Sp_init_9) hS (fun S2 σ1 H locs hH hS hq => ?_)
  obtain ⟨eS2, eM1⟩ := hq
  have eb2 : S2.1 = (b + 4) := by rw [eS2]; rfl
  have ok0_2 : rs_Ok S2 1 b := rs_okup (n := 0) (n' := 4) hk (by simp (disch := first | exact rs_n11 rfl | exact rs_n01 | exact Nat.le_refl _ | exact rs_m11 rfl | exact rs_m01 rfl | exact rs_q11 rfl | exact rs_q01 rfl | exact rs_q10 rfl | exact rs_q00 rfl | exact rs_p11 rfl | exact rs_p01 rfl | exact rs_p10 rfl) only [eS2, eS1, rs_ad_k, rs_adm_k, KE_Px, KF_Px]) eb0 eb2 rfl
  have ok1_2 : rs_Ok S2 7 (b + 1) := rs_okup (n := 1) (n' := 4) ok1_1 (by simp (disch := first | exact rs_n11 rfl | exact rs_n01 | exact Nat.le_refl _ | exact rs_m11 rfl | exact rs_m01 rfl | exact rs_q11 rfl | exact rs_q01 rfl | exact rs_q10 rfl | exact rs_q00 rfl | exact rs_p11 rfl | exact rs_p01 rfl | exact rs_p10 rfl) only [eS2, rs_ad_k, rs_adm_k, KE_Px, KF_Px]) eb1 eb2 rfl
  refine rs_putRZ C hi hH hS (kd := 1) (k := 0) (kr := 7) ok0_2 (by decide) rfl rfl rfl rfl ok1_2 tw_320 d_Sp_init_12 (fun σ2 H locs eM2 hH hS => ?_)
  have fd0_0 : rs_R σ2 b 0 = (b + 1) := by rw [eM2]; exact rs_Rsame ⟨rfl, rfl⟩
  refine lv_aload_n hx hb d_Sp_init_15 rfl (lv_at hl 0 rfl) ?_
  refine lv_iconst hx hb d_Sp_init_16 ki_4 ?_
  refine rs_newq C hi.2 hH hS (kd := 24) (N := 4) (Or.inl ⟨rfl, rfl⟩) tw_54 (by decide) (by decide) (by decide) (Nat.le_of_ble_eq_true rfl) (Nat.le_of_ble_eq_true rfl) d_Sp_init_17 (fun S3 vv H eS3 ev okv hH hS => ?_)
  replace eS3 : S3 = rs_ad (b + 4) S2 24 4 := rs_ad_of eS3 eb2
  have eb3 : S3.1 = (b + 5) := by rw [eS3]; rfl
  obtain rfl : vv = (b + 5) := rs_vv ev eb2
  clear ev
  have ln5_3 : S3.2.2 (b + 5) = 4 := by rw [eS3]; exact if_pos rfl
  have ok5_3 := okv
  clear okv
  have ok0_3 : rs_Ok S3 1 b := rs_okup (n := 4) (n' := 5) ok0_2 (by simp (disch := first | exact rs_n11 rfl | exact rs_n01 | exact Nat.le_refl _ | exact rs_m11 rfl | exact rs_m01 rfl | exact rs_q11 rfl | exact rs_q01 rfl | exact rs_q10 rfl | exact rs_q00 rfl | exact rs_p11 rfl | exact rs_p01 rfl | exact rs_p10 rfl) only [eS3, rs_ad_k, rs_adm_k, KE_Px, KF_Px]) eb2 eb3 rfl
  refine rs_putRZ C hi hH hS (kd := 1) (k := 1) (kr := 24) ok0_3 (by decide) rfl rfl rfl rfl ok5_3 tw_321 d_Sp_init_20 (fun σ3 H locs eM3 hH hS => ?_)
  have fd0_1 : rs_R σ3 b 1 = (b + 5) := by rw [eM3]; exact rs_Rsame ⟨rfl, rfl⟩
  refine lv_aload_n hx hb d_Sp_init_23 rfl (lv_at hl 0 rfl) ?_
  refine rs_newo C hH hS (kd := 8) (by decide) (by decide) tw_56 tw_57 tw_3 (Nat.le_of_ble_eq_true rfl) (Nat.le_of_ble_eq_true rfl) d_Sp_init_24 (fun S4 vv H eS4 ev okv hH hS => ?_)
  replace eS4 : S4 = rs_ad (b + 5) S3 8 0 := rs_ad_of eS4 eb3
  have eb4 : S4.1 = (b + 6) := by rw [eS4]; rfl
  obtain rfl : vv = (b + 6) := rs_vv ev eb3
  clear ev
  have ok6_4 := okv
  clear okv
  refine lv_dup hx hb d_Sp_init_27 rfl ?_
  refine rs_cvZ (rs_runIZ C hi.2 hH hl (J_Ro_init l eb4 ok6_4) rc_Ro_init rfl tw_58 tw_59 rfl ⟨⟨rfl, rfl⟩, ⟨by decide, by decide⟩, Nat.le_of_ble_eq_true rfl, Nat.le_of_ble_eq_true rfl⟩ (Nat.le_of_ble_eq_true rfl) rfl d_Sp_init_28) hS (fun S5 σ4 H locs hH hS hq => ?_)
  obtain ⟨eS5, eM4⟩ := hq
  have eb5 : S5.1 = (b + 8) := by rw [eS5]; rfl
  have ok0_5 : rs_Ok S5 1 b := rs_okup (n := 5) (n' := 8) ok0_3 (by simp (disch := first | exact rs_n11 rfl | exact rs_n01 | exact Nat.le_refl _ | exact rs_m11 rfl | exact rs_m01 rfl | exact rs_q11 rfl | exact rs_q01 rfl | exact rs_q10 rfl | exact rs_q00 rfl | exact rs_p11 rfl | exact rs_p01 rfl | exact rs_p10 rfl) only [eS5, eS4, rs_ad_k, rs_adm_k, KE_Px, KF_Px, KE_Ro, KF_Ro]) eb3 eb5 rfl
  have ok6_5 : rs_Ok S5 8 (b + 6) := rs_okup (n := 6) (n' := 8) ok6_4 (by simp (disch := first | exact rs_n11 rfl | exact rs_n01 | exact Nat.le_refl _ | exact rs_m11 rfl | exact rs_m01 rfl | exact rs_q11 rfl | exact rs_q01 rfl | exact rs_q10 rfl | exact rs_q00 rfl | exact rs_p11 rfl | exact rs_p01 rfl | exact rs_p10 rfl) only [eS5, rs_ad_k, rs_adm_k, KE_Px, KF_Px, KE_Ro, KF_Ro]) eb4 eb5 rfl
  refine rs_putRZ C hi hH hS (kd := 1) (k := 2) (kr := 8) ok0_5 (by decide) rfl rfl rfl rfl ok6_5 tw_322 d_Sp_init_31 (fun σ5 H locs eM5 hH hS => ?_)
  have fd0_2 : rs_R σ5 b 2 = (b + 6) := by rw [eM5]; exact rs_Rsame ⟨rfl, rfl⟩
  refine lv_aload_n hx hb d_Sp_init_34 rfl (lv_at hl 0 rfl) ?_
  refine rs_newo C hH hS (kd := 10) (by decide) (by decide) tw_112 tw_113 tw_4 (Nat.le_of_ble_eq_true rfl) (Nat.le_of_ble_eq_true rfl) d_Sp_init_35 (fun S6 vv H eS6 ev okv hH hS => ?_)
  replace eS6 : S6 = rs_ad (b + 8) S5 10 0 := rs_ad_of eS6 eb5
  have eb6 : S6.1 = (b + 9) := by rw [eS6]; rfl
  obtain rfl : vv = (b + 9) := rs_vv ev eb5
  clear ev
  have ok9_6 := okv
  clear okv
  refine lv_dup hx hb d_Sp_init_38 rfl ?_
  refine rs_cvZ (rs_runIZ C hi.2 hH hl (J_Up_init l eb6 ok9_6) rc_Up_init rfl tw_114 tw_115 rfl ⟨⟨rfl, rfl⟩, ⟨by decide, by decide⟩, Nat.le_of_ble_eq_true rfl, Nat.le_of_ble_eq_true rfl⟩ (Nat.le_of_ble_eq_true rfl) rfl d_Sp_init_39) hS (fun S7 σ6 H locs hH hS hq => ?_)
  obtain ⟨eS7, eM6⟩ := hq
  have eb7 : S7.1 = (b + 14) := by rw [eS7]; rfl
  have ok0_7 : rs_Ok S7 1 b := rs_okup (n := 8) (n' := 14) ok0_5 (by simp (disch := first | exact rs_n11 rfl | exact rs_n01 | exact Nat.le_refl _ | exact rs_m11 rfl | exact rs_m01 rfl | exact rs_q11 rfl | exact rs_q01 rfl | exact rs_q10 rfl | exact rs_q00 rfl | exact rs_p11 rfl | exact rs_p01 rfl | exact rs_p10 rfl) only [eS7, eS6, rs_ad_k, rs_adm_k, KE_Px, KF_Px, KE_Ro, KF_Ro, KE_Up, KF_Up]) eb5 eb7 rfl
  have ok9_7 : rs_Ok S7 10 (b + 9) := rs_okup (n := 9) (n' := 14) ok9_6 (by simp (disch := first | exact rs_n11 rfl | exact rs_n01 | exact Nat.le_refl _ | exact rs_m11 rfl | exact rs_m01 rfl | exact rs_q11 rfl | exact rs_q01 rfl | exact rs_q10 rfl | exact rs_q00 rfl | exact rs_p11 rfl | exact rs_p01 rfl | exact rs_p10 rfl) only [eS7, rs_ad_k, rs_adm_k, KE_Px, KF_Px, KE_Ro, KF_Ro, KE_Up, KF_Up]) eb6 eb7 rfl
  refine rs_putRZ C hi hH hS (kd := 1) (k := 3) (kr := 10) ok0_7 (by decide) rfl rfl rfl rfl ok9_7 tw_323 d_Sp_init_42 (fun σ7 H locs eM7 hH hS => ?_)
  have fd0_3 : rs_R σ7 b 3 = (b + 9) := by rw [eM7]; exact rs_Rsame ⟨rfl, rfl⟩
  refine lv_aload_n hx hb d_Sp_init_45 rfl (lv_at hl 0 rfl) ?_
  refine rs_newo C hH hS (kd := 2) (by decide) (by decide) tw_148 tw_149 tw_5 (Nat.le_of_ble_eq_true rfl) (Nat.le_of_ble_eq_true rfl) d_Sp_init_46 (fun S8 vv H eS8 ev okv hH hS => ?_)
  replace eS8 : S8 = rs_ad (b + 14) S7 2 0 := rs_ad_of eS8 eb7
  have eb8 : S8.1 = (b + 15) := by rw [eS8]; rfl
  obtain rfl : vv = (b + 15) := rs_vv ev eb7
  clear ev
  have ok15_8 := okv
  clear okv
  refine lv_dup hx hb d_Sp_init_49 rfl ?_
  refine rs_cvZ (rs_runIZ C hi.2 hH hl (J_Ch_init l eb8 ok15_8) rc_Ch_init rfl tw_150 tw_151 rfl ⟨⟨rfl, rfl⟩, ⟨by decide, by decide⟩, Nat.le_of_ble_eq_true rfl, Nat.le_of_ble_eq_true rfl⟩ (Nat.le_of_ble_eq_true rfl) rfl d_Sp_init_50) hS (fun S9 σ8 H locs hH hS hq => ?_)
  obtain ⟨eS9, eM8⟩ := hq
  have eb9 : S9.1 = (b + 25) := by rw [eS9]; rfl
  have ok0_9 : rs_Ok S9 1 b := rs_okup (n := 14) (n' := 25) ok0_7 (by simp (disch := first | exact rs_n11 rfl | exact rs_n01 | exact Nat.le_refl _ | exact rs_m11 rfl | exact rs_m01 rfl | exact rs_q11 rfl | exact rs_q01 rfl | exact rs_q10 rfl | exact rs_q00 rfl | exact rs_p11 rfl | exact rs_p01 rfl | exact rs_p10 rfl) only [eS9, eS8, rs_ad_k, rs_adm_k, KE_Ch, KF_Ch, KE_Px, KF_Px, KE_Ro, KF_Ro, KE_Up, KF_Up]) eb7 eb9 rfl
  have ok15_9 : rs_Ok S9 2 (b + 15) := rs_okup (n := 15) (n' := 25) ok15_8 (by simp (disch := first | exact rs_n11 rfl | exact rs_n01 | exact Nat.le_refl _ | exact rs_m11 rfl | exact rs_m01 rfl | exact rs_q11 rfl | exact rs_q01 rfl | exact rs_q10 rfl | exact rs_q00 rfl | exact rs_p11 rfl | exact rs_p01 rfl | exact rs_p10 rfl) only [eS9, rs_ad_k, rs_adm_k, KE_Ch, KF_Ch, KE_Px, KF_Px, KE_Ro, KF_Ro, KE_Up, KF_Up]) eb8 eb9 rfl
  refine rs_putRZ C hi hH hS (kd := 1) (k := 4) (kr := 2) ok0_9 (by decide) rfl rfl rfl rfl ok15_9 tw_324 d_Sp_init_53 (fun σ9 H locs eM9 hH hS => ?_)
  have fd0_4 : rs_R σ9 b 4 = (b + 15) := by rw [eM9]; exact rs_Rsame ⟨rfl, rfl⟩
  refine lv_aload_n hx hb d_Sp_init_56 rfl (lv_at hl 0 rfl) ?_
  refine rs_newo C hH hS (kd := 4) (by decide) (by decide) tw_166 tw_167 tw_6 (Nat.le_of_ble_eq_true rfl) (Nat.le_of_ble_eq_true rfl) d_Sp_init_57 (fun S10 vv H eS10 ev okv hH hS => ?_)
  replace eS10 : S10 = rs_ad (b + 25) S9 4 0 := rs_ad_of eS10 eb9
  have eb10 : S10.1 = (b + 26) := by rw [eS10]; rfl
  obtain rfl : vv = (b + 26) := rs_vv ev eb9
  clear ev
  have ok26_10 := okv
  clear okv
  refine lv_dup hx hb d_Sp_init_60 rfl ?_
  refine rs_cvZ (rs_runIZ C hi.2 hH hl (J_Le_init l eb10 ok26_10) rc_Le_init rfl tw_168 tw_169 rfl ⟨⟨rfl, rfl⟩, ⟨by decide, by decide⟩, Nat.le_of_ble_eq_true rfl, Nat.le_of_ble_eq_true rfl⟩ (Nat.le_of_ble_eq_true rfl) rfl d_Sp_init_61) hS (fun S11 σ10 H locs hH hS hq => ?_)
  obtain ⟨eS11, eM10⟩ := hq
  have eb11 : S11.1 = (b + 27) := by rw [eS11]; rfl
  have ok0_11 : rs_Ok S11 1 b := rs_okup (n := 25) (n' := 27) ok0_9 (by simp (disch := first | exact rs_n11 rfl | exact rs_n01 | exact Nat.le_refl _ | exact rs_m11 rfl | exact rs_m01 rfl | exact rs_q11 rfl | exact rs_q01 rfl | exact rs_q10 rfl | exact rs_q00 rfl | exact rs_p11 rfl | exact rs_p01 rfl | exact rs_p10 rfl) only [eS11, eS10, rs_ad_k, rs_adm_k, KE_Ch, KF_Ch, KE_Le, KF_Le, KE_Px, KF_Px, KE_Ro, KF_Ro, KE_Up, KF_Up]) eb9 eb11 rfl
  have ok26_11 : rs_Ok S11 4 (b + 26) := rs_okup (n := 26) (n' := 27) ok26_10 (by simp (disch := first | exact rs_n11 rfl | exact rs_n01 | exact Nat.le_refl _ | exact rs_m11 rfl | exact rs_m01 rfl | exact rs_q11 rfl | exact rs_q01 rfl | exact rs_q10 rfl | exact rs_q00 rfl | exact rs_p11 rfl | exact rs_p01 rfl | exact rs_p10 rfl) only [eS11, rs_ad_k, rs_adm_k, KE_Ch, KF_Ch, KE_Le, KF_Le, KE_Px, KF_Px, KE_Ro, KF_Ro, KE_Up, KF_Up]) eb10 eb11 rfl
  refine rs_putRZ C hi hH hS (kd := 1) (k := 5) (kr := 4) ok0_11 (by decide) rfl rfl rfl rfl ok26_11 tw_325 d_Sp_init_64 (fun σ11 H locs eM11 hH hS => ?_)
  have fd0_5 : rs_R σ11 b 5 = (b + 26) := by rw [eM11]; exact rs_Rsame ⟨rfl, rfl⟩
  refine lv_iconst hx hb d_Sp_init_67 ki_0 ?_
  refine lv_istore_n hx hb d_Sp_init_68 rfl hl (by decide) (lv' := [(1, .int (0 : Int32)), (0, .ref (Bm + b))]) rfl (fun ls hl => ?_)
  refine lv_iload_n hx hb d_Sp_init_69 rfl (lv_at hl 0 rfl) ?_
  refine lv_iconst hx hb d_Sp_init_70 ki_4 ?_
  refine lv_icmp_ge hx hb d_Sp_init_71 (tgt := 98) rfl (fun hc => absurd hc (by decide)) (fun _ => ?_)
  refine lv_aload_n hx hb d_Sp_init_74 rfl (lv_at hl 1 rfl) ?_
  have fd0_1_1 : rs_R σ11 b 1 = (b + 5) := by (simp (disch := first | exact rs_n11 rfl | exact rs_n01 | exact Nat.le_refl _ | exact rs_m11 rfl | exact rs_m01 rfl | exact rs_q11 rfl | exact rs_q01 rfl | exact rs_q10 rfl | exact rs_q00 rfl | exact rs_p11 rfl | exact rs_p01 rfl | exact rs_p10 rfl) only [eM11, eM10, eM9, eM8, eM7, eM6, eM5, eM4, rs_Rother, rs_RI, rs_Rmul, KO_Ch, KO_Le, KO_Px, KO_Ro, KO_Up]); exact fd0_1
  have ok5_11 : rs_Ok S11 24 (b + 5) := rs_okup (n := 5) (n' := 27) ok5_3 (by simp (disch := first | exact rs_n11 rfl | exact rs_n01 | exact Nat.le_refl _ | exact rs_m11 rfl | exact rs_m01 rfl | exact rs_q11 rfl | exact rs_q01 rfl | exact rs_q10 rfl | exact rs_q00 rfl | exact rs_p11 rfl | exact rs_p01 rfl | exact rs_p10 rfl) only [eS11, eS10, eS9, eS8, eS7, eS6, eS5, eS4, rs_ad_k, rs_adm_k, KE_Ch, KF_Ch, KE_Le, KF_Le, KE_Px, KF_Px, KE_Ro, KF_Ro, KE_Up, KF_Up]) eb3 eb11 rfl
  have ln5_11 : S11.2.2 (b + 5) = 4 := by (simp (disch := first | exact rs_n11 rfl | exact rs_n01 | exact Nat.le_refl _ | exact rs_m11 rfl | exact rs_m01 rfl | exact rs_q11 rfl | exact rs_q01 rfl | exact rs_q10 rfl | exact rs_q00 rfl | exact rs_p11 rfl | exact rs_p01 rfl | exact rs_p10 rfl) only [eS11, eS10, eS9, eS8, eS7, eS6, eS5, eS4, rs_ad_l, rs_adm_l, KE_Ch, KF_Ch, KE_Le, KF_Le, KE_Px, KF_Px, KE_Ro, KF_Ro, KE_Up, KF_Up]); exact ln5_3
  refine rs_getVZ C hH (kd := 1) (k := 1) (kr := 24) ok0_11 (by decide) fd0_1_1 ok5_11 tw_321 d_Sp_init_75 ?_
  refine lv_iload_n hx hb d_Sp_init_78 rfl (lv_at hl 0 rfl) ?_
  refine rs_newo C hH hS (kd := 6) (by decide) (by decide) tw_54 tw_187 tw_7 (Nat.le_of_ble_eq_true rfl) (Nat.le_of_ble_eq_true rfl) d_Sp_init_79 (fun S12 vv H eS12 ev okv hH hS => ?_)
  replace eS12 : S12 = rs_ad (b + 27) S11 6 0 := rs_ad_of eS12 eb11
  have eb12 : S12.1 = (b + 28) := by rw [eS12]; rfl
  obtain rfl : vv = (b + 28) := rs_vv ev eb11
  clear ev
  have ok28_12 := okv
  clear okv
  refine lv_dup hx hb d_Sp_init_82 rfl ?_
  refine lv_sipush hx hb d_Sp_init_83 ks_200 ?_
  refine lv_iload_n hx hb d_Sp_init_86 rfl (lv_at hl 0 rfl) ?_
  refine lv_iadd hx hb d_Sp_init_87 ?_
  refine rs_cvZ (rs_runIZ C hi.2 hH hl (J_Pe_init l eb12 ok28_12) rc_Pe_init rfl tw_188 tw_189 rfl ⟨⟨rfl, rfl⟩, ⟨by decide, by decide⟩, Nat.le_of_ble_eq_true rfl, Nat.le_of_ble_eq_true rfl⟩ (Nat.le_of_ble_eq_true rfl) rfl d_Sp_init_88) hS (fun S13 σ12 H locs hH hS hq => ?_)
  obtain ⟨eS13, eM12⟩ := hq
  have eb13 : S13.1 = (b + 90) := by rw [eS13]; rfl
  have ok5_13 : rs_Ok S13 24 (b + 5) := rs_okup (n := 27) (n' := 90) ok5_11 (by simp (disch := first | exact rs_n11 rfl | exact rs_n01 | exact Nat.le_refl _ | exact rs_m11 rfl | exact rs_m01 rfl | exact rs_q11 rfl | exact rs_q01 rfl | exact rs_q10 rfl | exact rs_q00 rfl | exact rs_p11 rfl | exact rs_p01 rfl | exact rs_p10 rfl) only [eS13, eS12, rs_ad_k, rs_adm_k, KE_Ch, KF_Ch, KE_Le, KF_Le, KE_Pe, KF_Pe, KE_Px, KF_Px, KE_Ro, KF_Ro, KE_Up, KF_Up]) eb11 eb13 rfl
  have ln5_13 : S13.2.2 (b + 5) = 4 := by (simp (disch := first | exact rs_n11 rfl | exact rs_n01 | exact Nat.le_refl _ | exact rs_m11 rfl | exact rs_m01 rfl | exact rs_q11 rfl | exact rs_q01 rfl | exact rs_q10 rfl | exact rs_q00 rfl | exact rs_p11 rfl | exact rs_p01 rfl | exact rs_p10 rfl) only [eS13, eS12, rs_ad_l, rs_adm_l, KE_Ch, KF_Ch, KE_Le, KF_Le, KE_Pe, KF_Pe, KE_Px, KF_Px, KE_Ro, KF_Ro, KE_Up, KF_Up]); exact ln5_11
  have ok28_13 : rs_Ok S13 6 (b + 28) := rs_okup (n := 28) (n' := 90) ok28_12 (by simp (disch := first | exact rs_n11 rfl | exact rs_n01 | exact Nat.le_refl _ | exact rs_m11 rfl | exact rs_m01 rfl | exact rs_q11 rfl | exact rs_q01 rfl | exact rs_q10 rfl | exact rs_q00 rfl | exact rs_p11 rfl | exact rs_p01 rfl | exact rs_p10 rfl) only [eS13, rs_ad_k, rs_adm_k, KE_Ch, KF_Ch, KE_Le, KF_Le, KE_Pe, KF_Pe, KE_Px, KF_Px, KE_Ro, KF_Ro, KE_Up, KF_Up]) eb12 eb13 rfl
  refine rs_aastZ C hH hS (Or.inl ⟨rfl, rfl⟩) ok5_13 ok28_13 (show vp_in (0 : Int32) (S13.2.2 (b + 5)) by rw [ln5_13]; unfold vp_in; decide) d_Sp_init_91 (rs_cast C.2.2.2.2.2.2.1 (by decide)) (fun σ13 H locs eM13 hH hS => ?_)
  replace eM13 : σ13 = rs_sR σ12 (b + 5) 0 (b + 28) := by rw [eM13, show ((0 : Int32)).toNatClampNeg = 0 from by decide]
  refine lv_iinc hx hb d_Sp_init_92 hl (k := 0) rfl (v := (1 : Int32)) (by decide) (by decide) (lv' := [(1, .int (1 : Int32)), (0, .ref (Bm + b))]) rfl (fun ls hl => ?_)
  refine lv_goto hx hb d_Sp_init_95 (tgt := 69) rfl ?_
  refine lv_iload_n hx hb d_Sp_init_69 rfl (lv_at hl 0 rfl) ?_
  refine lv_iconst hx hb d_Sp_init_70 ki_4 ?_
  refine lv_icmp_ge hx hb d_Sp_init_71 (tgt := 98) rfl (fun hc => absurd hc (by decide)) (fun _ => ?_)
  refine lv_aload_n hx hb d_Sp_init_74 rfl (lv_at hl 1 rfl) ?_
  have fd0_1_2 : rs_R σ13 b 1 = (b + 5) := by (simp (disch := first | exact rs_n11 rfl | exact rs_n01 | exact Nat.le_refl _ | exact rs_m11 rfl | exact rs_m01 rfl | exact rs_q11 rfl | exact rs_q01 rfl | exact rs_q10 rfl | exact rs_q00 rfl | exact rs_p11 rfl | exact rs_p01 rfl | exact rs_p10 rfl) only [eM13, eM12, rs_Rother, rs_RI, rs_Rmul, KO_Ch, KO_Le, KO_Pe, KO_Px, KO_Ro, KO_Up]); exact fd0_1_1
  have ok0_13 : rs_Ok S13 1 b := rs_okup (n := 27) (n' := 90) ok0_11 (by simp (disch := first | exact rs_n11 rfl | exact rs_n01 | exact Nat.le_refl _ | exact rs_m11 rfl | exact rs_m01 rfl | exact rs_q11 rfl | exact rs_q01 rfl | exact rs_q10 rfl | exact rs_q00 rfl | exact rs_p11 rfl | exact rs_p01 rfl | exact rs_p10 rfl) only [eS13, eS12, rs_ad_k, rs_adm_k, KE_Ch, KF_Ch, KE_Le, KF_Le, KE_Pe, KF_Pe, KE_Px, KF_Px, KE_Ro, KF_Ro, KE_Up, KF_Up]) eb11 eb13 rfl
  refine rs_getVZ C hH (kd := 1) (k := 1) (kr := 24) ok0_13 (by decide) fd0_1_2 ok5_13 tw_321 d_Sp_init_75 ?_
  refine lv_iload_n hx hb d_Sp_init_78 rfl (lv_at hl 0 rfl) ?_
  refine rs_newo C hH hS (kd := 6) (by decide) (by decide) tw_54 tw_187 tw_7 (Nat.le_of_ble_eq_true rfl) (Nat.le_of_ble_eq_true rfl) d_Sp_init_79 (fun S14 vv H eS14 ev okv hH hS => ?_)
  replace eS14 : S14 = rs_ad (b + 90) S13 6 0 := rs_ad_of eS14 eb13
  have eb14 : S14.1 = (b + 91) := by rw [eS14]; rfl
  obtain rfl : vv = (b + 91) := rs_vv ev eb13
  clear ev
  have ok91_14 := okv
  clear okv
  refine lv_dup hx hb d_Sp_init_82 rfl ?_
  refine lv_sipush hx hb d_Sp_init_83 ks_200 ?_
  refine lv_iload_n hx hb d_Sp_init_86 rfl (lv_at hl 0 rfl) ?_
  refine lv_iadd hx hb d_Sp_init_87 ?_
  refine rs_cvZ (rs_runIZ C hi.2 hH hl (J_Pe_init l eb14 ok91_14) rc_Pe_init rfl tw_188 tw_189 rfl ⟨⟨rfl, rfl⟩, ⟨by decide, by decide⟩, Nat.le_of_ble_eq_true rfl, Nat.le_of_ble_eq_true rfl⟩ (Nat.le_of_ble_eq_true rfl) rfl d_Sp_init_88) hS (fun S15 σ14 H locs hH hS hq => ?_)
  obtain ⟨eS15, eM14⟩ := hq
  have eb15 : S15.1 = (b + 153) := by rw [eS15]; rfl
  have ok5_15 : rs_Ok S15 24 (b + 5) := rs_okup (n := 90) (n' := 153) ok5_13 (by simp (disch := first | exact rs_n11 rfl | exact rs_n01 | exact Nat.le_refl _ | exact rs_m11 rfl | exact rs_m01 rfl | exact rs_q11 rfl | exact rs_q01 rfl | exact rs_q10 rfl | exact rs_q00 rfl | exact rs_p11 rfl | exact rs_p01 rfl | exact rs_p10 rfl) only [eS15, eS14, rs_ad_k, rs_adm_k, KE_Ch, KF_Ch, KE_Le, KF_Le, KE_Pe, KF_Pe, KE_Px, KF_Px, KE_Ro, KF_Ro, KE_Up, KF_Up]) eb13 eb15 rfl
  have ln5_15 : S15.2.2 (b + 5) = 4 := by (simp (disch := first | exact rs_n11 rfl | exact rs_n01 | exact Nat.le_refl _ | exact rs_m11 rfl | exact rs_m01 rfl | exact rs_q11 rfl | exact rs_q01 rfl | exact rs_q10 rfl | exact rs_q00 rfl | exact rs_p11 rfl | exact rs_p01 rfl | exact rs_p10 rfl) only [eS15, eS14, rs_ad_l, rs_adm_l, KE_Ch, KF_Ch, KE_Le, KF_Le, KE_Pe, KF_Pe, KE_Px, KF_Px, KE_Ro, KF_Ro, KE_Up, KF_Up]); exact ln5_13
  have ok91_15 : rs_Ok S15 6 (b + 91) := rs_okup (n := 91) (n' := 153) ok91_14 (by simp (disch := first | exact rs_n11 rfl | exact rs_n01 | exact Nat.le_refl _ | exact rs_m11 rfl | exact rs_m01 rfl | exact rs_q11 rfl | exact rs_q01 rfl | exact rs_q10 rfl | exact rs_q00 rfl | exact rs_p11 rfl | exact rs_p01 rfl | exact rs_p10 rfl) only [eS15, rs_ad_k, rs_adm_k, KE_Ch, KF_Ch, KE_Le, KF_Le, KE_Pe, KF_Pe, KE_Px, KF_Px, KE_Ro, KF_Ro, KE_Up, KF_Up]) eb14 eb15 rfl
  refine rs_aastZ C hH hS (Or.inl ⟨rfl, rfl⟩) ok5_15 ok91_15 (show vp_in (1 : Int32) (S15.2.2 (b + 5)) by rw [ln5_15]; unfold vp_in; decide) d_Sp_init_91 (rs_cast C.2.2.2.2.2.2.1 (by decide)) (fun σ15 H locs eM15 hH hS => ?_)
  replace eM15 : σ15 = rs_sR σ14 (b + 5) 1 (b + 91) := by rw [eM15, show ((1 : Int32)).toNatClampNeg = 1 from by decide]
  refine lv_iinc hx hb d_Sp_init_92 hl (k := 0) rfl (v := (2 : Int32)) (by decide) (by decide) (lv' := [(1, .int (2 : Int32)), (0, .ref (Bm + b))]) rfl (fun ls hl => ?_)
  refine lv_goto hx hb d_Sp_init_95 (tgt := 69) rfl ?_
  refine lv_iload_n hx hb d_Sp_init_69 rfl (lv_at hl 0 rfl) ?_
  refine lv_iconst hx hb d_Sp_init_70 ki_4 ?_
  refine lv_icmp_ge hx hb d_Sp_init_71 (tgt := 98) rfl (fun hc => absurd hc (by decide)) (fun _ => ?_)
  refine lv_aload_n hx hb d_Sp_init_74 rfl (lv_at hl 1 rfl) ?_
  have fd0_1_3 : rs_R σ15 b 1 = (b + 5) := by (simp (disch := first | exact rs_n11 rfl | exact rs_n01 | exact Nat.le_refl _ | exact rs_m11 rfl | exact rs_m01 rfl | exact rs_q11 rfl | exact rs_q01 rfl | exact rs_q10 rfl | exact rs_q00 rfl | exact rs_p11 rfl | exact rs_p01 rfl | exact rs_p10 rfl) only [eM15, eM14, rs_Rother, rs_RI, rs_Rmul, KO_Ch, KO_Le, KO_Pe, KO_Px, KO_Ro, KO_Up]); exact fd0_1_2
  have ok0_15 : rs_Ok S15 1 b := rs_okup (n := 90) (n' := 153) ok0_13 (by simp (disch := first | exact rs_n11 rfl | exact rs_n01 | exact Nat.le_refl _ | exact rs_m11 rfl | exact rs_m01 rfl | exact rs_q11 rfl | exact rs_q01 rfl | exact rs_q10 rfl | exact rs_q00 rfl | exact rs_p11 rfl | exact rs_p01 rfl | exact rs_p10 rfl) only [eS15, eS14, rs_ad_k, rs_adm_k, KE_Ch, KF_Ch, KE_Le, KF_Le, KE_Pe, KF_Pe, KE_Px, KF_Px, KE_Ro, KF_Ro, KE_Up, KF_Up]) eb13 eb15 rfl
  refine rs_getVZ C hH (kd := 1) (k := 1) (kr := 24) ok0_15 (by decide) fd0_1_3 ok5_15 tw_321 d_Sp_init_75 ?_
  refine lv_iload_n hx hb d_Sp_init_78 rfl (lv_at hl 0 rfl) ?_
  refine rs_newo C hH hS (kd := 6) (by decide) (by decide) tw_54 tw_187 tw_7 (Nat.le_of_ble_eq_true rfl) (Nat.le_of_ble_eq_true rfl) d_Sp_init_79 (fun S16 vv H eS16 ev okv hH hS => ?_)
  replace eS16 : S16 = rs_ad (b + 153) S15 6 0 := rs_ad_of eS16 eb15
  have eb16 : S16.1 = (b + 154) := by rw [eS16]; rfl
  obtain rfl : vv = (b + 154) := rs_vv ev eb15
  clear ev
  have ok154_16 := okv
  clear okv
  refine lv_dup hx hb d_Sp_init_82 rfl ?_
  refine lv_sipush hx hb d_Sp_init_83 ks_200 ?_
  refine lv_iload_n hx hb d_Sp_init_86 rfl (lv_at hl 0 rfl) ?_
  refine lv_iadd hx hb d_Sp_init_87 ?_
  refine rs_cvZ (rs_runIZ C hi.2 hH hl (J_Pe_init l eb16 ok154_16) rc_Pe_init rfl tw_188 tw_189 rfl ⟨⟨rfl, rfl⟩, ⟨by decide, by decide⟩, Nat.le_of_ble_eq_true rfl, Nat.le_of_ble_eq_true rfl⟩ (Nat.le_of_ble_eq_true rfl) rfl d_Sp_init_88) hS (fun S17 σ16 H locs hH hS hq => ?_)
  obtain ⟨eS17, eM16⟩ := hq
  have eb17 : S17.1 = (b + 216) := by rw [eS17]; rfl
  have ok5_17 : rs_Ok S17 24 (b + 5) := rs_okup (n := 153) (n' := 216) ok5_15 (by simp (disch := first | exact rs_n11 rfl | exact rs_n01 | exact Nat.le_refl _ | exact rs_m11 rfl | exact rs_m01 rfl | exact rs_q11 rfl | exact rs_q01 rfl | exact rs_q10 rfl | exact rs_q00 rfl | exact rs_p11 rfl | exact rs_p01 rfl | exact rs_p10 rfl) only [eS17, eS16, rs_ad_k, rs_adm_k, KE_Ch, KF_Ch, KE_Le, KF_Le, KE_Pe, KF_Pe, KE_Px, KF_Px, KE_Ro, KF_Ro, KE_Up, KF_Up]) eb15 eb17 rfl
  have ln5_17 : S17.2.2 (b + 5) = 4 := by (simp (disch := first | exact rs_n11 rfl | exact rs_n01 | exact Nat.le_refl _ | exact rs_m11 rfl | exact rs_m01 rfl | exact rs_q11 rfl | exact rs_q01 rfl | exact rs_q10 rfl | exact rs_q00 rfl | exact rs_p11 rfl | exact rs_p01 rfl | exact rs_p10 rfl) only [eS17, eS16, rs_ad_l, rs_adm_l, KE_Ch, KF_Ch, KE_Le, KF_Le, KE_Pe, KF_Pe, KE_Px, KF_Px, KE_Ro, KF_Ro, KE_Up, KF_Up]); exact ln5_15
  have ok154_17 : rs_Ok S17 6 (b + 154) := rs_okup (n := 154) (n' := 216) ok154_16 (by simp (disch := first | exact rs_n11 rfl | exact rs_n01 | exact Nat.le_refl _ | exact rs_m11 rfl | exact rs_m01 rfl | exact rs_q11 rfl | exact rs_q01 rfl | exact rs_q10 rfl | exact rs_q00 rfl | exact rs_p11 rfl | exact rs_p01 rfl | exact rs_p10 rfl) only [eS17, rs_ad_k, rs_adm_k, KE_Ch, KF_Ch, KE_Le, KF_Le, KE_Pe, KF_Pe, KE_Px, KF_Px, KE_Ro, KF_Ro, KE_Up, KF_Up]) eb16 eb17 rfl
  refine rs_aastZ C hH hS (Or.inl ⟨rfl, rfl⟩) ok5_17 ok154_17 (show vp_in (2 : Int32) (S17.2.2 (b + 5)) by rw [ln5_17]; unfold vp_in; decide) d_Sp_init_91 (rs_cast C.2.2.2.2.2.2.1 (by decide)) (fun σ17 H locs eM17 hH hS => ?_)
  replace eM17 : σ17 = rs_sR σ16 (b + 5) 2 (b + 154) := by rw [eM17, show ((2 : Int32)).toNatClampNeg = 2 from by decide]
  refine lv_iinc hx hb d_Sp_init_92 hl (k := 0) rfl (v := (3 : Int32)) (by decide) (by decide) (lv' := [(1, .int (3 : Int32)), (0, .ref (Bm + b))]) rfl (fun ls hl => ?_)
  refine lv_goto hx hb d_Sp_init_95 (tgt := 69) rfl ?_
  refine lv_iload_n hx hb d_Sp_init_69 rfl (lv_at hl 0 rfl) ?_
  refine lv_iconst hx hb d_Sp_init_70 ki_4 ?_
  refine lv_icmp_ge hx hb d_Sp_init_71 (tgt := 98) rfl (fun hc => absurd hc (by decide)) (fun _ => ?_)
  refine lv_aload_n hx hb d_Sp_init_74 rfl (lv_at hl 1 rfl) ?_
  have fd0_1_4 : rs_R σ17 b 1 = (b + 5) := by (simp (disch := first | exact rs_n11 rfl | exact rs_n01 | exact Nat.le_refl _ | exact rs_m11 rfl | exact rs_m01 rfl | exact rs_q11 rfl | exact rs_q01 rfl | exact rs_q10 rfl | exact rs_q00 rfl | exact rs_p11 rfl | exact rs_p01 rfl | exact rs_p10 rfl) only [eM17, eM16, rs_Rother, rs_RI, rs_Rmul, KO_Ch, KO_Le, KO_Pe, KO_Px, KO_Ro, KO_Up]); exact fd0_1_3
  have ok0_17 : rs_Ok S17 1 b := rs_okup (n := 153) (n' := 216) ok0_15 (by simp (disch := first | exact rs_n11 rfl | exact rs_n01 | exact Nat.le_refl _ | exact rs_m11 rfl | exact rs_m01 rfl | exact rs_q11 rfl | exact rs_q01 rfl | exact rs_q10 rfl | exact rs_q00 rfl | exact rs_p11 rfl | exact rs_p01 rfl | exact rs_p10 rfl) only [eS17, eS16, rs_ad_k, rs_adm_k, KE_Ch, KF_Ch, KE_Le, KF_Le, KE_Pe, KF_Pe, KE_Px, KF_Px, KE_Ro, KF_Ro, KE_Up, KF_Up]) eb15 eb17 rfl
  refine rs_getVZ C hH (kd := 1) (k := 1) (kr := 24) ok0_17 (by decide) fd0_1_4 ok5_17 tw_321 d_Sp_init_75 ?_
  refine lv_iload_n hx hb d_Sp_init_78 rfl (lv_at hl 0 rfl) ?_
  refine rs_newo C hH hS (kd := 6) (by decide) (by decide) tw_54 tw_187 tw_7 (Nat.le_of_ble_eq_true rfl) (Nat.le_of_ble_eq_true rfl) d_Sp_init_79 (fun S18 vv H eS18 ev okv hH hS => ?_)
  replace eS18 : S18 = rs_ad (b + 216) S17 6 0 := rs_ad_of eS18 eb17
  have eb18 : S18.1 = (b + 217) := by rw [eS18]; rfl
  obtain rfl : vv = (b + 217) := rs_vv ev eb17
  clear ev
  have ok217_18 := okv
  clear okv
  refine lv_dup hx hb d_Sp_init_82 rfl ?_
  refine lv_sipush hx hb d_Sp_init_83 ks_200 ?_
  refine lv_iload_n hx hb d_Sp_init_86 rfl (lv_at hl 0 rfl) ?_
  refine lv_iadd hx hb d_Sp_init_87 ?_
  refine rs_cvZ (rs_runIZ C hi.2 hH hl (J_Pe_init l eb18 ok217_18) rc_Pe_init rfl tw_188 tw_189 rfl ⟨⟨rfl, rfl⟩, ⟨by decide, by decide⟩, Nat.le_of_ble_eq_true rfl, Nat.le_of_ble_eq_true rfl⟩ (Nat.le_of_ble_eq_true rfl) rfl d_Sp_init_88) hS (fun S19 σ18 H locs hH hS hq => ?_)
  obtain ⟨eS19, eM18⟩ := hq
  have eb19 : S19.1 = (b + 279) := by rw [eS19]; rfl
  have ok5_19 : rs_Ok S19 24 (b + 5) := rs_okup (n := 216) (n' := 279) ok5_17 (by simp (disch := first | exact rs_n11 rfl | exact rs_n01 | exact Nat.le_refl _ | exact rs_m11 rfl | exact rs_m01 rfl | exact rs_q11 rfl | exact rs_q01 rfl | exact rs_q10 rfl | exact rs_q00 rfl | exact rs_p11 rfl | exact rs_p01 rfl | exact rs_p10 rfl) only [eS19, eS18, rs_ad_k, rs_adm_k, KE_Ch, KF_Ch, KE_Le, KF_Le, KE_Pe, KF_Pe, KE_Px, KF_Px, KE_Ro, KF_Ro, KE_Up, KF_Up]) eb17 eb19 rfl
  have ln5_19 : S19.2.2 (b + 5) = 4 := by (simp (disch := first | exact rs_n11 rfl | exact rs_n01 | exact Nat.le_refl _ | exact rs_m11 rfl | exact rs_m01 rfl | exact rs_q11 rfl | exact rs_q01 rfl | exact rs_q10 rfl | exact rs_q00 rfl | exact rs_p11 rfl | exact rs_p01 rfl | exact rs_p10 rfl) only [eS19, eS18, rs_ad_l, rs_adm_l, KE_Ch, KF_Ch, KE_Le, KF_Le, KE_Pe, KF_Pe, KE_Px, KF_Px, KE_Ro, KF_Ro, KE_Up, KF_Up]); exact ln5_17
  have ok217_19 : rs_Ok S19 6 (b + 217) := rs_okup (n := 217) (n' := 279) ok217_18 (by simp (disch := first | exact rs_n11 rfl | exact rs_n01 | exact Nat.le_refl _ | exact rs_m11 rfl | exact rs_m01 rfl | exact rs_q11 rfl | exact rs_q01 rfl | exact rs_q10 rfl | exact rs_q00 rfl | exact rs_p11 rfl | exact rs_p01 rfl | exact rs_p10 rfl) only [eS19, rs_ad_k, rs_adm_k, KE_Ch, KF_Ch, KE_Le, KF_Le, KE_Pe, KF_Pe, KE_Px, KF_Px, KE_Ro, KF_Ro, KE_Up, KF_Up]) eb18 eb19 rfl
  refine rs_aastZ C hH hS (Or.inl ⟨rfl, rfl⟩) ok5_19 ok217_19 (show vp_in (3 : Int32) (S19.2.2 (b + 5)) by rw [ln5_19]; unfold vp_in; decide) d_Sp_init_91 (rs_cast C.2.2.2.2.2.2.1 (by decide)) (fun σ19 H locs eM19 hH hS => ?_)
  replace eM19 : σ19 = rs_sR σ18 (b + 5) 3 (b + 217) := by rw [eM19, show ((3 : Int32)).toNatClampNeg = 3 from by decide]
  refine lv_iinc hx hb d_Sp_init_92 hl (k := 0) rfl (v := (4 : Int32)) (by decide) (by decide) (lv' := [(1, .int (4 : Int32)), (0, .ref (Bm + b))]) rfl (fun ls hl => ?_)
  refine lv_goto hx hb d_Sp_init_95 (tgt := 69) rfl ?_
  refine lv_iload_n hx hb d_Sp_init_69 rfl (lv_at hl 0 rfl) ?_
  refine lv_iconst hx hb d_Sp_init_70 ki_4 ?_
  refine lv_icmp_ge hx hb d_Sp_init_71 (tgt := 98) rfl (fun _ => ?_) (fun hc => absurd (by decide) hc)
  refine lv_aload_n hx hb d_Sp_init_98 rfl (lv_at hl 1 rfl) ?_
  have fd0_2_5 : rs_R σ19 b 2 = (b + 6) := by (simp (disch := first | exact rs_n11 rfl | exact rs_n01 | exact Nat.le_refl _ | exact rs_m11 rfl | exact rs_m01 rfl | exact rs_q11 rfl | exact rs_q01 rfl | exact rs_q10 rfl | exact rs_q00 rfl | exact rs_p11 rfl | exact rs_p01 rfl | exact rs_p10 rfl) only [eM19, eM18, eM17, eM16, eM15, eM14, eM13, eM12, eM11, eM10, eM9, eM8, eM7, eM6, rs_Rother, rs_RI, rs_Rmul, KO_Ch, KO_Le, KO_Pe, KO_Px, KO_Ro, KO_Up]); exact fd0_2
  have ok0_19 : rs_Ok S19 1 b := rs_okup (n := 216) (n' := 279) ok0_17 (by simp (disch := first | exact rs_n11 rfl | exact rs_n01 | exact Nat.le_refl _ | exact rs_m11 rfl | exact rs_m01 rfl | exact rs_q11 rfl | exact rs_q01 rfl | exact rs_q10 rfl | exact rs_q00 rfl | exact rs_p11 rfl | exact rs_p01 rfl | exact rs_p10 rfl) only [eS19, eS18, rs_ad_k, rs_adm_k, KE_Ch, KF_Ch, KE_Le, KF_Le, KE_Pe, KF_Pe, KE_Px, KF_Px, KE_Ro, KF_Ro, KE_Up, KF_Up]) eb17 eb19 rfl
  have ok6_19 : rs_Ok S19 8 (b + 6) := rs_okup (n := 8) (n' := 279) ok6_5 (by simp (disch := first | exact rs_n11 rfl | exact rs_n01 | exact Nat.le_refl _ | exact rs_m11 rfl | exact rs_m01 rfl | exact rs_q11 rfl | exact rs_q01 rfl | exact rs_q10 rfl | exact rs_q00 rfl | exact rs_p11 rfl | exact rs_p01 rfl | exact rs_p10 rfl) only [eS19, eS18, eS17, eS16, eS15, eS14, eS13, eS12, eS11, eS10, eS9, eS8, eS7, eS6, rs_ad_k, rs_adm_k, KE_Ch, KF_Ch, KE_Le, KF_Le, KE_Pe, KF_Pe, KE_Px, KF_Px, KE_Ro, KF_Ro, KE_Up, KF_Up]) eb5 eb19 rfl
  refine rs_getVZ C hH (kd := 1) (k := 2) (kr := 8) ok0_19 (by decide) fd0_2_5 ok6_19 tw_322 d_Sp_init_99 ?_
  refine lv_bipush hx hb d_Sp_init_102 kb_7 ?_
  refine rs_putIZ C hH hS (kd := 8) (k := 3) ok6_19 (by decide) rfl tw_73 d_Sp_init_104 (fun σ20 H locs eM20 hH hS => ?_)
  exact rs_vretZ C hH hS ⟨by unfold KS_Sp; rw [eS19, eS18, eS17, eS16, eS15, eS14, eS13, eS12, eS11, eS10, eS9, eS8, eS7, eS6, eS5, eS4, eS3, eS2, eS1], by unfold KM_Sp; rw [eM20, eM19, eM18, eM17, eM16, eM15, eM14, eM13, eM12, eM11, eM10, eM9, eM8, eM7, eM6, eM5, eM4, eM3, eM2, eM1]⟩ (Nat.le_of_ble_eq_true rfl) (Nat.le_of_ble_eq_true rfl) d_Sp_init_107
