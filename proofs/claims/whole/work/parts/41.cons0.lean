/-! RouteSpeaker$Route.<init>()V : 2 cells -/
theorem d_Ro_init_0 : decode prog_8_method_1_code 0 = .ok (.aload_n 0, 1) := by decide +kernel
theorem d_Ro_init_1 : decode prog_8_method_1_code 1 = .ok (.invokespecial 3, 3) := by decide +kernel
theorem d_Ro_init_4 : decode prog_8_method_1_code 4 = .ok (.aload_n 0, 1) := by decide +kernel
theorem d_Ro_init_5 : decode prog_8_method_1_code 5 = .ok (.bipush (8), 2) := by decide +kernel
theorem d_Ro_init_7 : decode prog_8_method_1_code 7 = .ok (.newarray .int, 2) := by decide +kernel
theorem d_Ro_init_9 : decode prog_8_method_1_code 9 = .ok (.putfield 9, 3) := by decide +kernel
theorem d_Ro_init_12 : decode prog_8_method_1_code 12 = .ok (.aload_n 0, 1) := by decide +kernel
theorem d_Ro_init_13 : decode prog_8_method_1_code 13 = .ok (.iconst (-1), 1) := by decide +kernel
theorem d_Ro_init_14 : decode prog_8_method_1_code 14 = .ok (.putfield 15, 3) := by decide +kernel
theorem d_Ro_init_17 : decode prog_8_method_1_code 17 = .ok (.aload_n 0, 1) := by decide +kernel
theorem d_Ro_init_18 : decode prog_8_method_1_code 18 = .ok (.bipush (100), 2) := by decide +kernel
theorem d_Ro_init_20 : decode prog_8_method_1_code 20 = .ok (.putfield 19, 3) := by decide +kernel
theorem d_Ro_init_23 : decode prog_8_method_1_code 23 = .ok (.aload_n 0, 1) := by decide +kernel
theorem d_Ro_init_24 : decode prog_8_method_1_code 24 = .ok (.bipush (6), 2) := by decide +kernel
theorem d_Ro_init_26 : decode prog_8_method_1_code 26 = .ok (.newarray .int, 2) := by decide +kernel
theorem d_Ro_init_28 : decode prog_8_method_1_code 28 = .ok (.putfield 22, 3) := by decide +kernel
theorem d_Ro_init_31 : decode prog_8_method_1_code 31 = .ok (.return_, 1) := by decide +kernel
def KS_Ro (b : Nat) (S : rs_Shp) : rs_Shp := (rs_ad (b + 1) (rs_ad b S 20 8) 20 6)
def KM_Ro (b : Nat) (σ : rs_Mem) : rs_Mem := (rs_sR (rs_sI (rs_sI (rs_sR σ b 2 (b + 1)) b 4 (-1 : Int32)) b 5 (100 : Int32)) b 8 (b + 2))
theorem KE_Ro {b v : Nat} {S : rs_Shp} (h : v ≤ b) : (KS_Ro b S).2.1 v = S.2.1 v := by
  simp (disch := omega) only [KS_Ro, rs_ad_k, rs_adm_k]
theorem KF_Ro {b v : Nat} {S : rs_Shp} (h : v ≤ b) : (KS_Ro b S).2.2 v = S.2.2 v := by
  simp (disch := omega) only [KS_Ro, rs_ad_l, rs_adm_l]
theorem KO_Ro {b u j : Nat} {σ : rs_Mem} (h : u < b) : rs_R (KM_Ro b σ) u j = rs_R σ u j := by
  simp (disch := omega) only [KM_Ro, rs_Rother, rs_RI, rs_Rmul]
abbrev y_Ro_init : MethodName := ({ cls := "RouteSpeaker$Route", name := "<init>", desc := "()V" } : Jvm.MethodName)
theorem rc_Ro_init : rs_Cal y_Ro_init prog_8_method_1_code 1 none 0 := ⟨tw_60, tw_3, by decide, by decide, by decide +kernel⟩
set_option maxRecDepth 100000 in
set_option maxHeartbeats 8000000 in
theorem J_Ro_init (l : Launch) {G : rs_G} {Bm b : Nat} {S : rs_Shp} {σ : rs_Mem} (eb0 : S.1 = b) (hk : rs_Ok S 8 b) :
    Met l y_Ro_init (rs_ws y_Ro_init prog_8_method_1_code 1 none) { frames := 1, cells := 2, slots := 14, locals := 40 } (rs_PZ G Bm S σ [.ref (Bm + b)]) (rs_QZ G Bm (fun S1 σ1 => S1 = KS_Ro b S ∧ σ1 = KM_Ro b σ)) 2 14 (rs_A Bm) := by
  refine rs_metZ (own := "RouteSpeaker$Route") (by decide) rfl rfl (Nat.le_of_ble_eq_true rfl) (fun p e s m below meth c ls C hi hl hH hS => ?_)
  replace hl : lv_has ls 1 [(0, .ref (Bm + b))] := hl
  have hx := C.1
  have hb := C.2.1
  have b0 : 0 < b := hk.1
  refine lv_aload_n hx hb d_Ro_init_0 rfl (lv_at hl 0 rfl) ?_
  refine W.objInit hx hb C.2.2.2.2.1 (C.2.2.2.2.2.1 _ tw_61) (C.2.2.2.2.2.1 _ tw_26) (C.2.2.2.2.2.1 _ tw_27) rfl (by rw [C.2.2.1]; exact hl.1) rfl d_Ro_init_1 (Nat.le_of_ble_eq_true rfl) (Nat.le_of_ble_eq_true rfl) ?_
  refine W.eq (g2 := F0 m 4 ls []) rfl ?_
  refine lv_aload_n hx hb d_Ro_init_4 rfl (lv_at hl 0 rfl) ?_
  refine lv_bipush hx hb d_Ro_init_5 kb_8 ?_
  refine rs_newp C hH hS (kd := 20) (N := 8) (atype := .int) ⟨by decide, rfl⟩ tw_52 (by decide) (by decide) (by decide) (Nat.le_of_ble_eq_true rfl) (Nat.le_of_ble_eq_true rfl) d_Ro_init_7 (fun S1 vv H eS1 ev okv hH hS => ?_)
  replace eS1 : S1 = rs_ad b S 20 8 := rs_ad_of eS1 eb0
  have eb1 : S1.1 = (b + 1) := by rw [eS1]; rfl
  obtain rfl : vv = (b + 1) := rs_vv ev eb0
  clear ev
  have ln1_1 : S1.2.2 (b + 1) = 8 := by rw [eS1]; exact if_pos rfl
  have ok1_1 := okv
  clear okv
  have ok0_1 : rs_Ok S1 8 b := rs_okup (n := 0) (n' := 1) hk (by simp (disch := first | exact rs_n11 rfl | exact rs_n01 | exact Nat.le_refl _ | exact rs_m11 rfl | exact rs_m01 rfl | exact rs_q11 rfl | exact rs_q01 rfl | exact rs_q10 rfl | exact rs_q00 rfl | exact rs_p11 rfl | exact rs_p01 rfl | exact rs_p10 rfl) only [eS1, rs_ad_k, rs_adm_k]) eb0 eb1 rfl
  refine rs_putRZ C hi hH hS (kd := 8) (k := 2) (kr := 20) ok0_1 (by decide) rfl rfl rfl rfl ok1_1 tw_70 d_Ro_init_9 (fun σ1 H locs eM1 hH hS => ?_)
  have fd0_2 : rs_R σ1 b 2 = (b + 1) := by rw [eM1]; exact rs_Rsame ⟨rfl, rfl⟩
  refine lv_aload_n hx hb d_Ro_init_12 rfl (lv_at hl 0 rfl) ?_
  refine lv_iconst hx hb d_Ro_init_13 ki_m1 ?_
  refine rs_putIZ C hH hS (kd := 8) (k := 4) ok0_1 (by decide) rfl tw_77 d_Ro_init_14 (fun σ2 H locs eM2 hH hS => ?_)
  refine lv_aload_n hx hb d_Ro_init_17 rfl (lv_at hl 0 rfl) ?_
  refine lv_bipush hx hb d_Ro_init_18 kb_100 ?_
  refine rs_putIZ C hH hS (kd := 8) (k := 5) ok0_1 (by decide) rfl tw_81 d_Ro_init_20 (fun σ3 H locs eM3 hH hS => ?_)
  refine lv_aload_n hx hb d_Ro_init_23 rfl (lv_at hl 0 rfl) ?_
  refine lv_bipush hx hb d_Ro_init_24 kb_6 ?_
  refine rs_newp C hH hS (kd := 20) (N := 6) (atype := .int) ⟨by decide, rfl⟩ tw_52 (by decide) (by decide) (by decide) (Nat.le_of_ble_eq_true rfl) (Nat.le_of_ble_eq_true rfl) d_Ro_init_26 (fun S2 vv H eS2 ev okv hH hS => ?_)
  replace eS2 : S2 = rs_ad (b + 1) S1 20 6 := rs_ad_of eS2 eb1
  have eb2 : S2.1 = (b + 2) := by rw [eS2]; rfl
  obtain rfl : vv = (b + 2) := rs_vv ev eb1
  clear ev
  have ln2_2 : S2.2.2 (b + 2) = 6 := by rw [eS2]; exact if_pos rfl
  have ok2_2 := okv
  clear okv
  have ok0_2 : rs_Ok S2 8 b := rs_okup (n := 1) (n' := 2) ok0_1 (by simp (disch := first | exact rs_n11 rfl | exact rs_n01 | exact Nat.le_refl _ | exact rs_m11 rfl | exact rs_m01 rfl | exact rs_q11 rfl | exact rs_q01 rfl | exact rs_q10 rfl | exact rs_q00 rfl | exact rs_p11 rfl | exact rs_p01 rfl | exact rs_p10 rfl) only [eS2, rs_ad_k, rs_adm_k]) eb1 eb2 rfl
  refine rs_putRZ C hi hH hS (kd := 8) (k := 8) (kr := 20) ok0_2 (by decide) rfl rfl rfl rfl ok2_2 tw_90 d_Ro_init_28 (fun σ4 H locs eM4 hH hS => ?_)
  have fd0_8 : rs_R σ4 b 8 = (b + 2) := by rw [eM4]; exact rs_Rsame ⟨rfl, rfl⟩
  exact rs_vretZ C hH hS ⟨by unfold KS_Ro; rw [eS2, eS1], by unfold KM_Ro; rw [eM4, eM3, eM2, eM1]⟩ (Nat.le_of_ble_eq_true rfl) (Nat.le_of_ble_eq_true rfl) d_Ro_init_31
/-! RouteSpeaker$Prefixes.<init>()V : 3 cells -/
theorem d_Px_init_0 : decode prog_7_method_1_code 0 = .ok (.aload_n 0, 1) := by decide +kernel
theorem d_Px_init_1 : decode prog_7_method_1_code 1 = .ok (.invokespecial 3, 3) := by decide +kernel
theorem d_Px_init_4 : decode prog_7_method_1_code 4 = .ok (.aload_n 0, 1) := by decide +kernel
theorem d_Px_init_5 : decode prog_7_method_1_code 5 = .ok (.bipush (12), 2) := by decide +kernel
theorem d_Px_init_7 : decode prog_7_method_1_code 7 = .ok (.newarray .int, 2) := by decide +kernel
theorem d_Px_init_9 : decode prog_7_method_1_code 9 = .ok (.putfield 9, 3) := by decide +kernel
theorem d_Px_init_12 : decode prog_7_method_1_code 12 = .ok (.aload_n 0, 1) := by decide +kernel
theorem d_Px_init_13 : decode prog_7_method_1_code 13 = .ok (.bipush (12), 2) := by decide +kernel
theorem d_Px_init_15 : decode prog_7_method_1_code 15 = .ok (.newarray .int, 2) := by decide +kernel
theorem d_Px_init_17 : decode prog_7_method_1_code 17 = .ok (.putfield 15, 3) := by decide +kernel
theorem d_Px_init_20 : decode prog_7_method_1_code 20 = .ok (.aload_n 0, 1) := by decide +kernel
theorem d_Px_init_21 : decode prog_7_method_1_code 21 = .ok (.bipush (12), 2) := by decide +kernel
theorem d_Px_init_23 : decode prog_7_method_1_code 23 = .ok (.newarray .boolean, 2) := by decide +kernel
theorem d_Px_init_25 : decode prog_7_method_1_code 25 = .ok (.putfield 18, 3) := by decide +kernel
theorem d_Px_init_28 : decode prog_7_method_1_code 28 = .ok (.return_, 1) := by decide +kernel
def KS_Px (b : Nat) (S : rs_Shp) : rs_Shp := (rs_ad (b + 2) (rs_ad (b + 1) (rs_ad b S 20 12) 20 12) 21 12)
def KM_Px (b : Nat) (σ : rs_Mem) : rs_Mem := (rs_sR (rs_sR (rs_sR σ b 0 (b + 1)) b 1 (b + 2)) b 2 (b + 3))
theorem KE_Px {b v : Nat} {S : rs_Shp} (h : v ≤ b) : (KS_Px b S).2.1 v = S.2.1 v := by
  simp (disch := omega) only [KS_Px, rs_ad_k, rs_adm_k]
theorem KF_Px {b v : Nat} {S : rs_Shp} (h : v ≤ b) : (KS_Px b S).2.2 v = S.2.2 v := by
  simp (disch := omega) only [KS_Px, rs_ad_l, rs_adm_l]
theorem KO_Px {b u j : Nat} {σ : rs_Mem} (h : u < b) : rs_R (KM_Px b σ) u j = rs_R σ u j := by
  simp (disch := omega) only [KM_Px, rs_Rother, rs_RI, rs_Rmul]
abbrev y_Px_init : MethodName := ({ cls := "RouteSpeaker$Prefixes", name := "<init>", desc := "()V" } : Jvm.MethodName)
theorem rc_Px_init : rs_Cal y_Px_init prog_7_method_1_code 1 none 0 := ⟨tw_32, tw_2, by decide, by decide, by decide +kernel⟩
set_option maxRecDepth 100000 in
set_option maxHeartbeats 8000000 in
theorem J_Px_init (l : Launch) {G : rs_G} {Bm b : Nat} {S : rs_Shp} {σ : rs_Mem} (eb0 : S.1 = b) (hk : rs_Ok S 7 b) :
    Met l y_Px_init (rs_ws y_Px_init prog_7_method_1_code 1 none) { frames := 1, cells := 3, slots := 36, locals := 40 } (rs_PZ G Bm S σ [.ref (Bm + b)]) (rs_QZ G Bm (fun S1 σ1 => S1 = KS_Px b S ∧ σ1 = KM_Px b σ)) 3 36 (rs_A Bm) := by
  refine rs_metZ (own := "RouteSpeaker$Prefixes") (by decide) rfl rfl (Nat.le_of_ble_eq_true rfl) (fun p e s m below meth c ls C hi hl hH hS => ?_)
  replace hl : lv_has ls 1 [(0, .ref (Bm + b))] := hl
  have hx := C.1
  have hb := C.2.1
  have b0 : 0 < b := hk.1
  refine lv_aload_n hx hb d_Px_init_0 rfl (lv_at hl 0 rfl) ?_
  refine W.objInit hx hb C.2.2.2.2.1 (C.2.2.2.2.2.1 _ tw_33) (C.2.2.2.2.2.1 _ tw_26) (C.2.2.2.2.2.1 _ tw_27) rfl (by rw [C.2.2.1]; exact hl.1) rfl d_Px_init_1 (Nat.le_of_ble_eq_true rfl) (Nat.le_of_ble_eq_true rfl) ?_
  refine W.eq (g2 := F0 m 4 ls []) rfl ?_
  refine lv_aload_n hx hb d_Px_init_4 rfl (lv_at hl 0 rfl) ?_
  refine lv_bipush hx hb d_Px_init_5 kb_12 ?_
  refine rs_newp C hH hS (kd := 20) (N := 12) (atype := .int) ⟨by decide, rfl⟩ tw_52 (by decide) (by decide) (by decide) (Nat.le_of_ble_eq_true rfl) (Nat.le_of_ble_eq_true rfl) d_Px_init_7 (fun S1 vv H eS1 ev okv hH hS => ?_)
  replace eS1 : S1 = rs_ad b S 20 12 := rs_ad_of eS1 eb0
  have eb1 : S1.1 = (b + 1) := by rw [eS1]; rfl
  obtain rfl : vv = (b + 1) := rs_vv ev eb0
  clear ev
  have ln1_1 : S1.2.2 (b + 1) = 12 := by rw [eS1]; exact if_pos rfl
  have ok1_1 := okv
  clear okv
  have ok0_1 : rs_Ok S1 7 b := rs_okup (n := 0) (n' := 1) hk (by simp (disch := first | exact rs_n11 rfl | exact rs_n01 | exact Nat.le_refl _ | exact rs_m11 rfl | exact rs_m01 rfl | exact rs_q11 rfl | exact rs_q01 rfl | exact rs_q10 rfl | exact rs_q00 rfl | exact rs_p11 rfl | exact rs_p01 rfl | exact rs_p10 rfl) only [eS1, rs_ad_k, rs_adm_k]) eb0 eb1 rfl
  refine rs_putRZ C hi hH hS (kd := 7) (k := 0) (kr := 20) ok0_1 (by decide) rfl rfl rfl rfl ok1_1 tw_34 d_Px_init_9 (fun σ1 H locs eM1 hH hS => ?_)
  have fd0_0 : rs_R σ1 b 0 = (b + 1) := by rw [eM1]; exact rs_Rsame ⟨rfl, rfl⟩
  refine lv_aload_n hx hb d_Px_init_12 rfl (lv_at hl 0 rfl) ?_
  refine lv_bipush hx hb d_Px_init_13 kb_12 ?_
  refine rs_newp C hH hS (kd := 20) (N := 12) (atype := .int) ⟨by decide, rfl⟩ tw_52 (by decide) (by decide) (by decide) (Nat.le_of_ble_eq_true rfl) (Nat.le_of_ble_eq_true rfl) d_Px_init_15 (fun S2 vv H eS2 ev okv hH hS => ?_)
  replace eS2 : S2 = rs_ad (b + 1) S1 20 12 := rs_ad_of eS2 eb1
  have eb2 : S2.1 = (b + 2) := by rw [eS2]; rfl
  obtain rfl : vv = (b + 2) := rs_vv ev eb1
  clear ev
  have ln2_2 : S2.2.2 (b + 2) = 12 := by rw [eS2]; exact if_pos rfl
  have ok2_2 := okv
  clear okv
  have ok0_2 : rs_Ok S2 7 b := rs_okup (n := 1) (n' := 2) ok0_1 (by simp (disch := first | exact rs_n11 rfl | exact rs_n01 | exact Nat.le_refl _ | exact rs_m11 rfl | exact rs_m01 rfl | exact rs_q11 rfl | exact rs_q01 rfl | exact rs_q10 rfl | exact rs_q00 rfl | exact rs_p11 rfl | exact rs_p01 rfl | exact rs_p10 rfl) only [eS2, rs_ad_k, rs_adm_k]) eb1 eb2 rfl
  refine rs_putRZ C hi hH hS (kd := 7) (k := 1) (kr := 20) ok0_2 (by decide) rfl rfl rfl rfl ok2_2 tw_36 d_Px_init_17 (fun σ2 H locs eM2 hH hS => ?_)
  have fd0_1 : rs_R σ2 b 1 = (b + 2) := by rw [eM2]; exact rs_Rsame ⟨rfl, rfl⟩
  refine lv_aload_n hx hb d_Px_init_20 rfl (lv_at hl 0 rfl) ?_
  refine lv_bipush hx hb d_Px_init_21 kb_12 ?_
  refine rs_newp C hH hS (kd := 21) (N := 12) (atype := .boolean) ⟨by decide, rfl⟩ tw_53 (by decide) (by decide) (by decide) (Nat.le_of_ble_eq_true rfl) (Nat.le_of_ble_eq_true rfl) d_Px_init_23 (fun S3 vv H eS3 ev okv hH hS => ?_)
  replace eS3 : S3 = rs_ad (b + 2) S2 21 12 := rs_ad_of eS3 eb2
  have eb3 : S3.1 = (b + 3) := by rw [eS3]; rfl
  obtain rfl : vv = (b + 3) := rs_vv ev eb2
  clear ev
  have ln3_3 : S3.2.2 (b + 3) = 12 := by rw [eS3]; exact if_pos rfl
  have ok3_3 := okv
  clear okv
  have ok0_3 : rs_Ok S3 7 b := rs_okup (n := 2) (n' := 3) ok0_2 (by simp (disch := first | exact rs_n11 rfl | exact rs_n01 | exact Nat.le_refl _ | exact rs_m11 rfl | exact rs_m01 rfl | exact rs_q11 rfl | exact rs_q01 rfl | exact rs_q10 rfl | exact rs_q00 rfl | exact rs_p11 rfl | exact rs_p01 rfl | exact rs_p10 rfl) only [eS3, rs_ad_k, rs_adm_k]) eb2 eb3 rfl
  refine rs_putRZ C hi hH hS (kd := 7) (k := 2) (kr := 21) ok0_3 (by decide) rfl rfl rfl rfl ok3_3 tw_38 d_Px_init_25 (fun σ3 H locs eM3 hH hS => ?_)
  have fd0_2 : rs_R σ3 b 2 = (b + 3) := by rw [eM3]; exact rs_Rsame ⟨rfl, rfl⟩
  exact rs_vretZ C hH hS ⟨by unfold KS_Px; rw [eS3, eS2, eS1], by unfold KM_Px; rw [eM3, eM2, eM1]⟩ (Nat.le_of_ble_eq_true rfl) (Nat.le_of_ble_eq_true rfl) d_Px_init_28
/-! RouteSpeaker$Rules.<init>()V : 3 cells -/
theorem d_Ru_init_0 : decode prog_9_method_1_code 0 = .ok (.aload_n 0, 1) := by decide +kernel
theorem d_Ru_init_1 : decode prog_9_method_1_code 1 = .ok (.invokespecial 3, 3) := by decide +kernel
theorem d_Ru_init_4 : decode prog_9_method_1_code 4 = .ok (.aload_n 0, 1) := by decide +kernel
theorem d_Ru_init_5 : decode prog_9_method_1_code 5 = .ok (.iconst 3, 1) := by decide +kernel
theorem d_Ru_init_6 : decode prog_9_method_1_code 6 = .ok (.newarray .int, 2) := by decide +kernel
theorem d_Ru_init_8 : decode prog_9_method_1_code 8 = .ok (.putfield 9, 3) := by decide +kernel
theorem d_Ru_init_11 : decode prog_9_method_1_code 11 = .ok (.aload_n 0, 1) := by decide +kernel
theorem d_Ru_init_12 : decode prog_9_method_1_code 12 = .ok (.iconst 3, 1) := by decide +kernel
theorem d_Ru_init_13 : decode prog_9_method_1_code 13 = .ok (.newarray .int, 2) := by decide +kernel
theorem d_Ru_init_15 : decode prog_9_method_1_code 15 = .ok (.putfield 15, 3) := by decide +kernel
theorem d_Ru_init_18 : decode prog_9_method_1_code 18 = .ok (.aload_n 0, 1) := by decide +kernel
theorem d_Ru_init_19 : decode prog_9_method_1_code 19 = .ok (.iconst 3, 1) := by decide +kernel
theorem d_Ru_init_20 : decode prog_9_method_1_code 20 = .ok (.newarray .int, 2) := by decide +kernel
theorem d_Ru_init_22 : decode prog_9_method_1_code 22 = .ok (.putfield 18, 3) := by decide +kernel
theorem d_Ru_init_25 : decode prog_9_method_1_code 25 = .ok (.return_, 1) := by decide +kernel
def KS_Ru (b : Nat) (S : rs_Shp) : rs_Shp := (rs_ad (b + 2) (rs_ad (b + 1) (rs_ad b S 20 3) 20 3) 20 3)
def KM_Ru (b : Nat) (σ : rs_Mem) : rs_Mem := (rs_sR (rs_sR (rs_sR σ b 0 (b + 1)) b 1 (b + 2)) b 2 (b + 3))
theorem KE_Ru {b v : Nat} {S : rs_Shp} (h : v ≤ b) : (KS_Ru b S).2.1 v = S.2.1 v := by
  simp (disch := omega) only [KS_Ru, rs_ad_k, rs_adm_k]
theorem KF_Ru {b v : Nat} {S : rs_Shp} (h : v ≤ b) : (KS_Ru b S).2.2 v = S.2.2 v := by
  simp (disch := omega) only [KS_Ru, rs_ad_l, rs_adm_l]
theorem KO_Ru {b u j : Nat} {σ : rs_Mem} (h : u < b) : rs_R (KM_Ru b σ) u j = rs_R σ u j := by
  simp (disch := omega) only [KM_Ru, rs_Rother, rs_RI, rs_Rmul]
abbrev y_Ru_init : MethodName := ({ cls := "RouteSpeaker$Rules", name := "<init>", desc := "()V" } : Jvm.MethodName)
theorem rc_Ru_init : rs_Cal y_Ru_init prog_9_method_1_code 1 none 0 := ⟨tw_196, tw_8, by decide, by decide, by decide +kernel⟩
set_option maxRecDepth 100000 in
set_option maxHeartbeats 8000000 in
theorem J_Ru_init (l : Launch) {G : rs_G} {Bm b : Nat} {S : rs_Shp} {σ : rs_Mem} (eb0 : S.1 = b) (hk : rs_Ok S 9 b) :
    Met l y_Ru_init (rs_ws y_Ru_init prog_9_method_1_code 1 none) { frames := 1, cells := 3, slots := 9, locals := 40 } (rs_PZ G Bm S σ [.ref (Bm + b)]) (rs_QZ G Bm (fun S1 σ1 => S1 = KS_Ru b S ∧ σ1 = KM_Ru b σ)) 3 9 (rs_A Bm) := by
  refine rs_metZ (own := "RouteSpeaker$Rules") (by decide) rfl rfl (Nat.le_of_ble_eq_true rfl) (fun p e s m below meth c ls C hi hl hH hS => ?_)
  replace hl : lv_has ls 1 [(0, .ref (Bm + b))] := hl
  have hx := C.1
  have hb := C.2.1
  have b0 : 0 < b := hk.1
  refine lv_aload_n hx hb d_Ru_init_0 rfl (lv_at hl 0 rfl) ?_
  refine W.objInit hx hb C.2.2.2.2.1 (C.2.2.2.2.2.1 _ tw_197) (C.2.2.2.2.2.1 _ tw_26) (C.2.2.2.2.2.1 _ tw_27) rfl (by rw [C.2.2.1]; exact hl.1) rfl d_Ru_init_1 (Nat.le_of_ble_eq_true rfl) (Nat.le_of_ble_eq_true rfl) ?_
  refine W.eq (g2 := F0 m 4 ls []) rfl ?_
  refine lv_aload_n hx hb d_Ru_init_4 rfl (lv_at hl 0 rfl) ?_
  refine lv_iconst hx hb d_Ru_init_5 ki_3 ?_
  refine rs_newp C hH hS (kd := 20) (N := 3) (atype := .int) ⟨by decide, rfl⟩ tw_52 (by decide) (by decide) (by decide) (Nat.le_of_ble_eq_true rfl) (Nat.le_of_ble_eq_true rfl) d_Ru_init_6 (fun S1 vv H eS1 ev okv hH hS => ?_)
  replace eS1 : S1 = rs_ad b S 20 3 := rs_ad_of eS1 eb0
  have eb1 : S1.1 = (b + 1) := by rw [eS1]; rfl
  obtain rfl : vv = (b + 1) := rs_vv ev eb0
  clear ev
  have ln1_1 : S1.2.2 (b + 1) = 3 := by rw [eS1]; exact if_pos rfl
  have ok1_1 := okv
  clear okv
  have ok0_1 : rs_Ok S1 9 b := rs_okup (n := 0) (n' := 1) hk (by simp (disch := first | exact rs_n11 rfl | exact rs_n01 | exact Nat.le_refl _ | exact rs_m11 rfl | exact rs_m01 rfl | exact rs_q11 rfl | exact rs_q01 rfl | exact rs_q10 rfl | exact rs_q00 rfl | exact rs_p11 rfl | exact rs_p01 rfl | exact rs_p10 rfl) only [eS1, rs_ad_k, rs_adm_k]) eb0 eb1 rfl
  refine rs_putRZ C hi hH hS (kd := 9) (k := 0) (kr := 20) ok0_1 (by decide) rfl rfl rfl rfl ok1_1 tw_198 d_Ru_init_8 (fun σ1 H locs eM1 hH hS => ?_)
  have fd0_0 : rs_R σ1 b 0 = (b + 1) := by rw [eM1]; exact rs_Rsame ⟨rfl, rfl⟩
  refine lv_aload_n hx hb d_Ru_init_11 rfl (lv_at hl 0 rfl) ?_
  refine lv_iconst hx hb d_Ru_init_12 ki_3 ?_
  refine rs_newp C hH hS (kd := 20) (N := 3) (atype := .int) ⟨by decide, rfl⟩ tw_52 (by decide) (by decide) (by decide) (Nat.le_of_ble_eq_true rfl) (Nat.le_of_ble_eq_true rfl) d_Ru_init_13 (fun S2 vv H eS2 ev okv hH hS => ?_)
  replace eS2 : S2 = rs_ad (b + 1) S1 20 3 := rs_ad_of eS2 eb1
  have eb2 : S2.1 = (b + 2) := by rw [eS2]; rfl
  obtain rfl : vv = (b + 2) := rs_vv ev eb1
  clear ev
  have ln2_2 : S2.2.2 (b + 2) = 3 := by rw [eS2]; exact if_pos rfl
  have ok2_2 := okv
  clear okv
  have ok0_2 : rs_Ok S2 9 b := rs_okup (n := 1) (n' := 2) ok0_1 (by simp (disch := first | exact rs_n11 rfl | exact rs_n01 | exact Nat.le_refl _ | exact rs_m11 rfl | exact rs_m01 rfl | exact rs_q11 rfl | exact rs_q01 rfl | exact rs_q10 rfl | exact rs_q00 rfl | exact rs_p11 rfl | exact rs_p01 rfl | exact rs_p10 rfl) only [eS2, rs_ad_k, rs_adm_k]) eb1 eb2 rfl
  refine rs_putRZ C hi hH hS (kd := 9) (k := 1) (kr := 20) ok0_2 (by decide) rfl rfl rfl rfl ok2_2 tw_199 d_Ru_init_15 (fun σ2 H locs eM2 hH hS => ?_)
  have fd0_1 : rs_R σ2 b 1 = (b + 2) := by rw [eM2]; exact rs_Rsame ⟨rfl, rfl⟩
  refine lv_aload_n hx hb d_Ru_init_18 rfl (lv_at hl 0 rfl) ?_
  refine lv_iconst hx hb d_Ru_init_19 ki_3 ?_
  refine rs_newp C hH hS (kd := 20) (N := 3) (atype := .int) ⟨by decide, rfl⟩ tw_52 (by decide) (by decide) (by decide) (Nat.le_of_ble_eq_true rfl) (Nat.le_of_ble_eq_true rfl) d_Ru_init_20 (fun S3 vv H eS3 ev okv hH hS => ?_)
  replace eS3 : S3 = rs_ad (b + 2) S2 20 3 := rs_ad_of eS3 eb2
  have eb3 : S3.1 = (b + 3) := by rw [eS3]; rfl
  obtain rfl : vv = (b + 3) := rs_vv ev eb2
  clear ev
  have ln3_3 : S3.2.2 (b + 3) = 3 := by rw [eS3]; exact if_pos rfl
  have ok3_3 := okv
  clear okv
  have ok0_3 : rs_Ok S3 9 b := rs_okup (n := 2) (n' := 3) ok0_2 (by simp (disch := first | exact rs_n11 rfl | exact rs_n01 | exact Nat.le_refl _ | exact rs_m11 rfl | exact rs_m01 rfl | exact rs_q11 rfl | exact rs_q01 rfl | exact rs_q10 rfl | exact rs_q00 rfl | exact rs_p11 rfl | exact rs_p01 rfl | exact rs_p10 rfl) only [eS3, rs_ad_k, rs_adm_k]) eb2 eb3 rfl
  refine rs_putRZ C hi hH hS (kd := 9) (k := 2) (kr := 20) ok0_3 (by decide) rfl rfl rfl rfl ok3_3 tw_200 d_Ru_init_22 (fun σ3 H locs eM3 hH hS => ?_)
  have fd0_2 : rs_R σ3 b 2 = (b + 3) := by rw [eM3]; exact rs_Rsame ⟨rfl, rfl⟩
  exact rs_vretZ C hH hS ⟨by unfold KS_Ru; rw [eS3, eS2, eS1], by unfold KM_Ru; rw [eM3, eM2, eM1]⟩ (Nat.le_of_ble_eq_true rfl) (Nat.le_of_ble_eq_true rfl) d_Ru_init_25
/-! RouteSpeaker$Letter.<init>()V : 1 cells -/
theorem d_Le_init_0 : decode prog_4_method_1_code 0 = .ok (.aload_n 0, 1) := by decide +kernel
theorem d_Le_init_1 : decode prog_4_method_1_code 1 = .ok (.invokespecial 3, 3) := by decide +kernel
theorem d_Le_init_4 : decode prog_4_method_1_code 4 = .ok (.aload_n 0, 1) := by decide +kernel
theorem d_Le_init_5 : decode prog_4_method_1_code 5 = .ok (.bipush (60), 2) := by decide +kernel
theorem d_Le_init_7 : decode prog_4_method_1_code 7 = .ok (.newarray .int, 2) := by decide +kernel
theorem d_Le_init_9 : decode prog_4_method_1_code 9 = .ok (.putfield 9, 3) := by decide +kernel
theorem d_Le_init_12 : decode prog_4_method_1_code 12 = .ok (.return_, 1) := by decide +kernel
def KS_Le (b : Nat) (S : rs_Shp) : rs_Shp := (rs_ad b S 20 60)
def KM_Le (b : Nat) (σ : rs_Mem) : rs_Mem := (rs_sR σ b 0 (b + 1))
theorem KE_Le {b v : Nat} {S : rs_Shp} (h : v ≤ b) : (KS_Le b S).2.1 v = S.2.1 v := by
  simp (disch := omega) only [KS_Le, rs_ad_k, rs_adm_k]
theorem KF_Le {b v : Nat} {S : rs_Shp} (h : v ≤ b) : (KS_Le b S).2.2 v = S.2.2 v := by
  simp (disch := omega) only [KS_Le, rs_ad_l, rs_adm_l]
theorem KO_Le {b u j : Nat} {σ : rs_Mem} (h : u < b) : rs_R (KM_Le b σ) u j = rs_R σ u j := by
  simp (disch := omega) only [KM_Le, rs_Rother, rs_RI, rs_Rmul]
abbrev y_Le_init : MethodName := ({ cls := "RouteSpeaker$Letter", name := "<init>", desc := "()V" } : Jvm.MethodName)
theorem rc_Le_init : rs_Cal y_Le_init prog_4_method_1_code 1 none 0 := ⟨tw_170, tw_6, by decide, by decide, by decide +kernel⟩
set_option maxRecDepth 100000 in
set_option maxHeartbeats 8000000 in
theorem J_Le_init (l : Launch) {G : rs_G} {Bm b : Nat} {S : rs_Shp} {σ : rs_Mem} (eb0 : S.1 = b) (hk : rs_Ok S 4 b) :
    Met l y_Le_init (rs_ws y_Le_init prog_4_method_1_code 1 none) { frames := 1, cells := 1, slots := 60, locals := 40 } (rs_PZ G Bm S σ [.ref (Bm + b)]) (rs_QZ G Bm (fun S1 σ1 => S1 = KS_Le b S ∧ σ1 = KM_Le b σ)) 1 60 (rs_A Bm) := by
  refine rs_metZ (own := "RouteSpeaker$Letter") (by decide) rfl rfl (Nat.le_of_ble_eq_true rfl) (fun p e s m below meth c ls C hi hl hH hS => ?_)
  replace hl : lv_has ls 1 [(0, .ref (Bm + b))] := hl
  have hx := C.1
  have hb := C.2.1
  have b0 : 0 < b := hk.1
  refine lv_aload_n hx hb d_Le_init_0 rfl (lv_at hl 0 rfl) ?_
  refine W.objInit hx hb C.2.2.2.2.1 (C.2.2.2.2.2.1 _ tw_171) (C.2.2.2.2.2.1 _ tw_26) (C.2.2.2.2.2.1 _ tw_27) rfl (by rw [C.2.2.1]; exact hl.1) rfl d_Le_init_1 (Nat.le_of_ble_eq_true rfl) (Nat.le_of_ble_eq_true rfl) ?_
  refine W.eq (g2 := F0 m 4 ls []) rfl ?_
  refine lv_aload_n hx hb d_Le_init_4 rfl (lv_at hl 0 rfl) ?_
  refine lv_bipush hx hb d_Le_init_5 kb_60 ?_
  refine rs_newp C hH hS (kd := 20) (N := 60) (atype := .int) ⟨by decide, rfl⟩ tw_52 (by decide) (by decide) (by decide) (Nat.le_of_ble_eq_true rfl) (Nat.le_of_ble_eq_true rfl) d_Le_init_7 (fun S1 vv H eS1 ev okv hH hS => ?_)
  replace eS1 : S1 = rs_ad b S 20 60 := rs_ad_of eS1 eb0
  have eb1 : S1.1 = (b + 1) := by rw [eS1]; rfl
  obtain rfl : vv = (b + 1) := rs_vv ev eb0
  clear ev
  have ln1_1 : S1.2.2 (b + 1) = 60 := by rw [eS1]; exact if_pos rfl
  have ok1_1 := okv
  clear okv
  have ok0_1 : rs_Ok S1 4 b := rs_okup (n := 0) (n' := 1) hk (by simp (disch := first | exact rs_n11 rfl | exact rs_n01 | exact Nat.le_refl _ | exact rs_m11 rfl | exact rs_m01 rfl | exact rs_q11 rfl | exact rs_q01 rfl | exact rs_q10 rfl | exact rs_q00 rfl | exact rs_p11 rfl | exact rs_p01 rfl | exact rs_p10 rfl) only [eS1, rs_ad_k, rs_adm_k]) eb0 eb1 rfl
  refine rs_putRZ C hi hH hS (kd := 4) (k := 0) (kr := 20) ok0_1 (by decide) rfl rfl rfl rfl ok1_1 tw_172 d_Le_init_9 (fun σ1 H locs eM1 hH hS => ?_)
  have fd0_0 : rs_R σ1 b 0 = (b + 1) := by rw [eM1]; exact rs_Rsame ⟨rfl, rfl⟩
  exact rs_vretZ C hH hS ⟨by unfold KS_Le; rw [eS1], by unfold KM_Le; rw [eM1]⟩ (Nat.le_of_ble_eq_true rfl) (Nat.le_of_ble_eq_true rfl) d_Le_init_12
/-! RouteSpeaker$Outbox.<init>()V : 1 cells -/
theorem d_Ob_init_0 : decode prog_5_method_1_code 0 = .ok (.aload_n 0, 1) := by decide +kernel
theorem d_Ob_init_1 : decode prog_5_method_1_code 1 = .ok (.invokespecial 3, 3) := by decide +kernel
theorem d_Ob_init_4 : decode prog_5_method_1_code 4 = .ok (.aload_n 0, 1) := by decide +kernel
theorem d_Ob_init_5 : decode prog_5_method_1_code 5 = .ok (.sipush (200), 3) := by decide +kernel
theorem d_Ob_init_8 : decode prog_5_method_1_code 8 = .ok (.newarray .int, 2) := by decide +kernel
theorem d_Ob_init_10 : decode prog_5_method_1_code 10 = .ok (.putfield 9, 3) := by decide +kernel
theorem d_Ob_init_13 : decode prog_5_method_1_code 13 = .ok (.return_, 1) := by decide +kernel
def KS_Ob (b : Nat) (S : rs_Shp) : rs_Shp := (rs_ad b S 20 200)
def KM_Ob (b : Nat) (σ : rs_Mem) : rs_Mem := (rs_sR σ b 0 (b + 1))
theorem KE_Ob {b v : Nat} {S : rs_Shp} (h : v ≤ b) : (KS_Ob b S).2.1 v = S.2.1 v := by
  simp (disch := omega) only [KS_Ob, rs_ad_k, rs_adm_k]
theorem KF_Ob {b v : Nat} {S : rs_Shp} (h : v ≤ b) : (KS_Ob b S).2.2 v = S.2.2 v := by
  simp (disch := omega) only [KS_Ob, rs_ad_l, rs_adm_l]
theorem KO_Ob {b u j : Nat} {σ : rs_Mem} (h : u < b) : rs_R (KM_Ob b σ) u j = rs_R σ u j := by
  simp (disch := omega) only [KM_Ob, rs_Rother, rs_RI, rs_Rmul]
abbrev y_Ob_init : MethodName := ({ cls := "RouteSpeaker$Outbox", name := "<init>", desc := "()V" } : Jvm.MethodName)
theorem rc_Ob_init : rs_Cal y_Ob_init prog_5_method_1_code 1 none 0 := ⟨tw_215, tw_9, by decide, by decide, by decide +kernel⟩
set_option maxRecDepth 100000 in
set_option maxHeartbeats 8000000 in
theorem J_Ob_init (l : Launch) {G : rs_G} {Bm b : Nat} {S : rs_Shp} {σ : rs_Mem} (eb0 : S.1 = b) (hk : rs_Ok S 5 b) :
    Met l y_Ob_init (rs_ws y_Ob_init prog_5_method_1_code 1 none) { frames := 1, cells := 1, slots := 200, locals := 40 } (rs_PZ G Bm S σ [.ref (Bm + b)]) (rs_QZ G Bm (fun S1 σ1 => S1 = KS_Ob b S ∧ σ1 = KM_Ob b σ)) 1 200 (rs_A Bm) := by
  refine rs_metZ (own := "RouteSpeaker$Outbox") (by decide) rfl rfl (Nat.le_of_ble_eq_true rfl) (fun p e s m below meth c ls C hi hl hH hS => ?_)
  replace hl : lv_has ls 1 [(0, .ref (Bm + b))] := hl
  have hx := C.1
  have hb := C.2.1
  have b0 : 0 < b := hk.1
  refine lv_aload_n hx hb d_Ob_init_0 rfl (lv_at hl 0 rfl) ?_
  refine W.objInit hx hb C.2.2.2.2.1 (C.2.2.2.2.2.1 _ tw_216) (C.2.2.2.2.2.1 _ tw_26) (C.2.2.2.2.2.1 _ tw_27) rfl (by rw [C.2.2.1]; exact hl.1) rfl d_Ob_init_1 (Nat.le_of_ble_eq_true rfl) (Nat.le_of_ble_eq_true rfl) ?_
  refine W.eq (g2 := F0 m 4 ls []) rfl ?_
  refine lv_aload_n hx hb d_Ob_init_4 rfl (lv_at hl 0 rfl) ?_
  refine lv_sipush hx hb d_Ob_init_5 ks_200 ?_
  refine rs_newp C hH hS (kd := 20) (N := 200) (atype := .int) ⟨by decide, rfl⟩ tw_52 (by decide) (by decide) (by decide) (Nat.le_of_ble_eq_true rfl) (Nat.le_of_ble_eq_true rfl) d_Ob_init_8 (fun S1 vv H eS1 ev okv hH hS => ?_)
  replace eS1 : S1 = rs_ad b S 20 200 := rs_ad_of eS1 eb0
  have eb1 : S1.1 = (b + 1) := by rw [eS1]; rfl
  obtain rfl : vv = (b + 1) := rs_vv ev eb0
  clear ev
  have ln1_1 : S1.2.2 (b + 1) = 200 := by rw [eS1]; exact if_pos rfl
  have ok1_1 := okv
  clear okv
  have ok0_1 : rs_Ok S1 5 b := rs_okup (n := 0) (n' := 1) hk (by simp (disch := first | exact rs_n11 rfl | exact rs_n01 | exact Nat.le_refl _ | exact rs_m11 rfl | exact rs_m01 rfl | exact rs_q11 rfl | exact rs_q01 rfl | exact rs_q10 rfl | exact rs_q00 rfl | exact rs_p11 rfl | exact rs_p01 rfl | exact rs_p10 rfl) only [eS1, rs_ad_k, rs_adm_k]) eb0 eb1 rfl
  refine rs_putRZ C hi hH hS (kd := 5) (k := 0) (kr := 20) ok0_1 (by decide) rfl rfl rfl rfl ok1_1 tw_217 d_Ob_init_10 (fun σ1 H locs eM1 hH hS => ?_)
  have fd0_0 : rs_R σ1 b 0 = (b + 1) := by rw [eM1]; exact rs_Rsame ⟨rfl, rfl⟩
  exact rs_vretZ C hH hS ⟨by unfold KS_Ob; rw [eS1], by unfold KM_Ob; rw [eM1]⟩ (Nat.le_of_ble_eq_true rfl) (Nat.le_of_ble_eq_true rfl) d_Ob_init_13
/-! RouteSpeaker$Choice.<init>()V : 10 cells -/
theorem d_Ch_init_0 : decode prog_2_method_1_code 0 = .ok (.aload_n 0, 1) := by decide +kernel
theorem d_Ch_init_1 : decode prog_2_method_1_code 1 = .ok (.invokespecial 3, 3) := by decide +kernel
theorem d_Ch_init_4 : decode prog_2_method_1_code 4 = .ok (.aload_n 0, 1) := by decide +kernel
theorem d_Ch_init_5 : decode prog_2_method_1_code 5 = .ok (.bipush (7), 2) := by decide +kernel
theorem d_Ch_init_7 : decode prog_2_method_1_code 7 = .ok (.iconst 5, 1) := by decide +kernel
theorem d_Ch_init_8 : decode prog_2_method_1_code 8 = .ok (.multianewarray 11 2, 4) := by decide +kernel
theorem d_Ch_init_12 : decode prog_2_method_1_code 12 = .ok (.putfield 13, 3) := by decide +kernel
theorem d_Ch_init_15 : decode prog_2_method_1_code 15 = .ok (.aload_n 0, 1) := by decide +kernel
theorem d_Ch_init_16 : decode prog_2_method_1_code 16 = .ok (.iconst 5, 1) := by decide +kernel
theorem d_Ch_init_17 : decode prog_2_method_1_code 17 = .ok (.newarray .int, 2) := by decide +kernel
theorem d_Ch_init_19 : decode prog_2_method_1_code 19 = .ok (.putfield 16, 3) := by decide +kernel
theorem d_Ch_init_22 : decode prog_2_method_1_code 22 = .ok (.aload_n 0, 1) := by decide +kernel
theorem d_Ch_init_23 : decode prog_2_method_1_code 23 = .ok (.iconst 5, 1) := by decide +kernel
theorem d_Ch_init_24 : decode prog_2_method_1_code 24 = .ok (.newarray .boolean, 2) := by decide +kernel
theorem d_Ch_init_26 : decode prog_2_method_1_code 26 = .ok (.putfield 20, 3) := by decide +kernel
theorem d_Ch_init_29 : decode prog_2_method_1_code 29 = .ok (.return_, 1) := by decide +kernel
def KS_Ch (b : Nat) (S : rs_Shp) : rs_Shp := (rs_ad (b + 9) (rs_ad (b + 8) (rs_adm b S 7 5) 20 5) 21 5)
def KM_Ch (b : Nat) (σ : rs_Mem) : rs_Mem := (rs_sR (rs_sR (rs_sR (rs_mul σ (b + 1) 7) b 0 (b + 1)) b 1 (b + 9)) b 2 (b + 10))
theorem KE_Ch {b v : Nat} {S : rs_Shp} (h : v ≤ b) : (KS_Ch b S).2.1 v = S.2.1 v := by
  simp (disch := omega) only [KS_Ch, rs_ad_k, rs_adm_k]
theorem KF_Ch {b v : Nat} {S : rs_Shp} (h : v ≤ b) : (KS_Ch b S).2.2 v = S.2.2 v := by
  simp (disch := omega) only [KS_Ch, rs_ad_l, rs_adm_l]
theorem KO_Ch {b u j : Nat} {σ : rs_Mem} (h : u < b) : rs_R (KM_Ch b σ) u j = rs_R σ u j := by
  simp (disch := omega) only [KM_Ch, rs_Rother, rs_RI, rs_Rmul]
abbrev y_Ch_init : MethodName := ({ cls := "RouteSpeaker$Choice", name := "<init>", desc := "()V" } : Jvm.MethodName)
theorem rc_Ch_init : rs_Cal y_Ch_init prog_2_method_1_code 1 none 0 := ⟨tw_152, tw_5, by decide, by decide, by decide +kernel⟩
set_option maxRecDepth 100000 in
set_option maxHeartbeats 8000000 in
theorem J_Ch_init (l : Launch) {G : rs_G} {Bm b : Nat} {S : rs_Shp} {σ : rs_Mem} (eb0 : S.1 = b) (hk : rs_Ok S 2 b) :
    Met l y_Ch_init (rs_ws y_Ch_init prog_2_method_1_code 1 none) { frames := 1, cells := 10, slots := 52, locals := 40 } (rs_PZ G Bm S σ [.ref (Bm + b)]) (rs_QZ G Bm (fun S1 σ1 => S1 = KS_Ch b S ∧ σ1 = KM_Ch b σ)) 10 52 (rs_A Bm) := by
  refine rs_metZ (own := "RouteSpeaker$Choice") (by decide) rfl rfl (Nat.le_of_ble_eq_true rfl) (fun p e s m below meth c ls C hi hl hH hS => ?_)
  replace hl : lv_has ls 1 [(0, .ref (Bm + b))] := hl
  have hx := C.1
  have hb := C.2.1
  have b0 : 0 < b := hk.1
  refine lv_aload_n hx hb d_Ch_init_0 rfl (lv_at hl 0 rfl) ?_
  refine W.objInit hx hb C.2.2.2.2.1 (C.2.2.2.2.2.1 _ tw_153) (C.2.2.2.2.2.1 _ tw_26) (C.2.2.2.2.2.1 _ tw_27) rfl (by rw [C.2.2.1]; exact hl.1) rfl d_Ch_init_1 (Nat.le_of_ble_eq_true rfl) (Nat.le_of_ble_eq_true rfl) ?_
  refine W.eq (g2 := F0 m 4 ls []) rfl ?_
  refine lv_aload_n hx hb d_Ch_init_4 rfl (lv_at hl 0 rfl) ?_
  refine lv_bipush hx hb d_Ch_init_5 kb_7 ?_
  refine lv_iconst hx hb d_Ch_init_7 ki_5 ?_
  refine rs_newm C hi.2 hH hS (N := 7) (K := 5) tw_154 tw_52 (by decide) (by decide) (by decide) (by decide) (by decide) (by decide) (by decide) (Nat.le_of_ble_eq_true rfl) (Nat.le_of_ble_eq_true rfl) d_Ch_init_8 (fun S1 σ1 vv H eS1 eM1 ev okv hH hS => ?_)
  replace eM1 : σ1 = rs_mul σ (b + 1) 7 := by rw [eM1, eb0]
  replace eS1 : S1 = rs_adm b S 7 5 := rs_adm_of eS1 eb0
  have eb1 : S1.1 = (b + 8) := by rw [eS1]; rfl
  obtain rfl : vv = (b + 1) := rs_vv ev eb0
  clear ev
  have ln1_1 : S1.2.2 (b + 1) = 7 := by rw [eS1]; exact if_pos rfl
  have ok1_1 := okv
  clear okv
  have ok0_1 : rs_Ok S1 2 b := rs_okup (n := 0) (n' := 8) hk (by simp (disch := first | exact rs_n11 rfl | exact rs_n01 | exact Nat.le_refl _ | exact rs_m11 rfl | exact rs_m01 rfl | exact rs_q11 rfl | exact rs_q01 rfl | exact rs_q10 rfl | exact rs_q00 rfl | exact rs_p11 rfl | exact rs_p01 rfl | exact rs_p10 rfl) only [eS1, rs_ad_k, rs_adm_k]) eb0 eb1 rfl
  refine rs_putRZ C hi hH hS (kd := 2) (k := 0) (kr := 26) ok0_1 (by decide) rfl rfl rfl rfl ok1_1 tw_156 d_Ch_init_12 (fun σ2 H locs eM2 hH hS => ?_)
  have fd0_0 : rs_R σ2 b 0 = (b + 1) := by rw [eM2]; exact rs_Rsame ⟨rfl, rfl⟩
  refine lv_aload_n hx hb d_Ch_init_15 rfl (lv_at hl 0 rfl) ?_
  refine lv_iconst hx hb d_Ch_init_16 ki_5 ?_
  refine rs_newp C hH hS (kd := 20) (N := 5) (atype := .int) ⟨by decide, rfl⟩ tw_52 (by decide) (by decide) (by decide) (Nat.le_of_ble_eq_true rfl) (Nat.le_of_ble_eq_true rfl) d_Ch_init_17 (fun S2 vv H eS2 ev okv hH hS => ?_)
  replace eS2 : S2 = rs_ad (b + 8) S1 20 5 := rs_ad_of eS2 eb1
  have eb2 : S2.1 = (b + 9) := by rw [eS2]; rfl
  obtain rfl : vv = (b + 9) := rs_vv ev eb1
  clear ev
  have ln9_2 : S2.2.2 (b + 9) = 5 := by rw [eS2]; exact if_pos rfl
  have ok9_2 := okv
  clear okv
  have ok0_2 : rs_Ok S2 2 b := rs_okup (n := 8) (n' := 9) ok0_1 (by simp (disch := first | exact rs_n11 rfl | exact rs_n01 | exact Nat.le_refl _ | exact rs_m11 rfl | exact rs_m01 rfl | exact rs_q11 rfl | exact rs_q01 rfl | exact rs_q10 rfl | exact rs_q00 rfl | exact rs_p11 rfl | exact rs_p01 rfl | exact rs_p10 rfl) only [eS2, rs_ad_k, rs_adm_k]) eb1 eb2 rfl
  refine rs_putRZ C hi hH hS (kd := 2) (k := 1) (kr := 20) ok0_2 (by decide) rfl rfl rfl rfl ok9_2 tw_157 d_Ch_init_19 (fun σ3 H locs eM3 hH hS => ?_)
  have fd0_1 : rs_R σ3 b 1 = (b + 9) := by rw [eM3]; exact rs_Rsame ⟨rfl, rfl⟩
  refine lv_aload_n hx hb d_Ch_init_22 rfl (lv_at hl 0 rfl) ?_
  refine lv_iconst hx hb d_Ch_init_23 ki_5 ?_
  refine rs_newp C hH hS (kd := 21) (N := 5) (atype := .boolean) ⟨by decide, rfl⟩ tw_53 (by decide) (by decide) (by decide) (Nat.le_of_ble_eq_true rfl) (Nat.le_of_ble_eq_true rfl) d_Ch_init_24 (fun S3 vv H eS3 ev okv hH hS => ?_)
  replace eS3 : S3 = rs_ad (b + 9) S2 21 5 := rs_ad_of eS3 eb2
  have eb3 : S3.1 = (b + 10) := by rw [eS3]; rfl
  obtain rfl : vv = (b + 10) := rs_vv ev eb2
  clear ev
  have ln10_3 : S3.2.2 (b + 10) = 5 := by rw [eS3]; exact if_pos rfl
  have ok10_3 := okv
  clear okv
  have ok0_3 : rs_Ok S3 2 b := rs_okup (n := 9) (n' := 10) ok0_2 (by simp (disch := first | exact rs_n11 rfl | exact rs_n01 | exact Nat.le_refl _ | exact rs_m11 rfl | exact rs_m01 rfl | exact rs_q11 rfl | exact rs_q01 rfl | exact rs_q10 rfl | exact rs_q00 rfl | exact rs_p11 rfl | exact rs_p01 rfl | exact rs_p10 rfl) only [eS3, rs_ad_k, rs_adm_k]) eb2 eb3 rfl
  refine rs_putRZ C hi hH hS (kd := 2) (k := 2) (kr := 21) ok0_3 (by decide) rfl rfl rfl rfl ok10_3 tw_158 d_Ch_init_26 (fun σ4 H locs eM4 hH hS => ?_)
  have fd0_2 : rs_R σ4 b 2 = (b + 10) := by rw [eM4]; exact rs_Rsame ⟨rfl, rfl⟩
  exact rs_vretZ C hH hS ⟨by unfold KS_Ch; rw [eS3, eS2, eS1], by unfold KM_Ch; rw [eM4, eM3, eM2, eM1]⟩ (Nat.le_of_ble_eq_true rfl) (Nat.le_of_ble_eq_true rfl) d_Ch_init_29
/-! RouteSpeaker$Update.<init>()V : 5 cells -/
theorem d_Up_init_0 : decode prog_10_method_1_code 0 = .ok (.aload_n 0, 1) := by decide +kernel
theorem d_Up_init_1 : decode prog_10_method_1_code 1 = .ok (.invokespecial 3, 3) := by decide +kernel
theorem d_Up_init_4 : decode prog_10_method_1_code 4 = .ok (.aload_n 0, 1) := by decide +kernel
theorem d_Up_init_5 : decode prog_10_method_1_code 5 = .ok (.new 9, 3) := by decide +kernel
theorem d_Up_init_8 : decode prog_10_method_1_code 8 = .ok (.dup, 1) := by decide +kernel
theorem d_Up_init_9 : decode prog_10_method_1_code 9 = .ok (.invokespecial 11, 3) := by decide +kernel
theorem d_Up_init_12 : decode prog_10_method_1_code 12 = .ok (.putfield 12, 3) := by decide +kernel
theorem d_Up_init_15 : decode prog_10_method_1_code 15 = .ok (.aload_n 0, 1) := by decide +kernel
theorem d_Up_init_16 : decode prog_10_method_1_code 16 = .ok (.sipush (256), 3) := by decide +kernel
theorem d_Up_init_19 : decode prog_10_method_1_code 19 = .ok (.newarray .boolean, 2) := by decide +kernel
theorem d_Up_init_21 : decode prog_10_method_1_code 21 = .ok (.putfield 18, 3) := by decide +kernel
theorem d_Up_init_24 : decode prog_10_method_1_code 24 = .ok (.aload_n 0, 1) := by decide +kernel
theorem d_Up_init_25 : decode prog_10_method_1_code 25 = .ok (.bipush (60), 2) := by decide +kernel
theorem d_Up_init_27 : decode prog_10_method_1_code 27 = .ok (.newarray .int, 2) := by decide +kernel
theorem d_Up_init_29 : decode prog_10_method_1_code 29 = .ok (.putfield 22, 3) := by decide +kernel
theorem d_Up_init_32 : decode prog_10_method_1_code 32 = .ok (.return_, 1) := by decide +kernel
def KS_Up (b : Nat) (S : rs_Shp) : rs_Shp := (rs_ad (b + 4) (rs_ad (b + 3) (KS_Ro (b + 1) (rs_ad b S 8 0)) 21 256) 20 60)
def KM_Up (b : Nat) (σ : rs_Mem) : rs_Mem := (rs_sR (rs_sR (rs_sR (KM_Ro (b + 1) σ) b 0 (b + 1)) b 1 (b + 4)) b 2 (b + 5))
theorem KE_Up {b v : Nat} {S : rs_Shp} (h : v ≤ b) : (KS_Up b S).2.1 v = S.2.1 v := by
  simp (disch := omega) only [KS_Up, rs_ad_k, rs_adm_k, KE_Ro]
theorem KF_Up {b v : Nat} {S : rs_Shp} (h : v ≤ b) : (KS_Up b S).2.2 v = S.2.2 v := by
  simp (disch := omega) only [KS_Up, rs_ad_l, rs_adm_l, KF_Ro]
theorem KO_Up {b u j : Nat} {σ : rs_Mem} (h : u < b) : rs_R (KM_Up b σ) u j = rs_R σ u j := by
  simp (disch := omega) only [KM_Up, rs_Rother, rs_RI, rs_Rmul, KO_Ro]
abbrev y_Up_init : MethodName := ({ cls := "RouteSpeaker$Update", name := "<init>", desc := "()V" } : Jvm.MethodName)
theorem rc_Up_init : rs_Cal y_Up_init prog_10_method_1_code 1 none 0 := ⟨tw_116, tw_4, by decide, by decide, by decide +kernel⟩
set_option maxRecDepth 100000 in
set_option maxHeartbeats 8000000 in
theorem J_Up_init (l : Launch) {G : rs_G} {Bm b : Nat} {S : rs_Shp} {σ : rs_Mem} (eb0 : S.1 = b) (hk : rs_Ok S 10 b) :
    Met l y_Up_init (rs_ws y_Up_init prog_10_method_1_code 1 none) { frames := 2, cells := 5, slots := 339, locals := 60 } (rs_PZ G Bm S σ [.ref (Bm + b)]) (rs_QZ G Bm (fun S1 σ1 => S1 = KS_Up b S ∧ σ1 = KM_Up b σ)) 5 339 (rs_A Bm) := by
  refine rs_metZ (own := "RouteSpeaker$Update") (by decide) rfl rfl (Nat.le_of_ble_eq_true rfl) (fun p e s m below meth c ls C hi hl hH hS => ?_)
  replace hl : lv_has ls 1 [(0, .ref (Bm + b))] := hl
  have hx := C.1
  have hb := C.2.1
  have b0 : 0 < b := hk.1
  refine lv_aload_n hx hb d_Up_init_0 rfl (lv_at hl 0 rfl) ?_
  refine W.objInit hx hb C.2.2.2.2.1 (C.2.2.2.2.2.1 _ tw_117) (C.2.2.2.2.2.1 _ tw_26) (C.2.2.2.2.2.1 _ tw_27) rfl (by rw [C.2.2.1]; exact hl.1) rfl d_Up_init_1 (Nat.le_of_ble_eq_true rfl) (Nat.le_of_ble_eq_true rfl) ?_
  refine W.eq (g2 := F0 m 4 ls []) rfl ?_
  refine lv_aload_n hx hb d_Up_init_4 rfl (lv_at hl 0 rfl) ?_
  refine rs_newo C hH hS (kd := 8) (by decide) (by decide) tw_118 tw_57 tw_3 (Nat.le_of_ble_eq_true rfl) (Nat.le_of_ble_eq_true rfl) d_Up_init_5 (fun S1 vv H eS1 ev okv hH hS => ?_)
  replace eS1 : S1 = rs_ad b S 8 0 := rs_ad_of eS1 eb0
  have eb1 : S1.1 = (b + 1) := by rw [eS1]; rfl
  obtain rfl : vv = (b + 1) := rs_vv ev eb0
  clear ev
  have ok1_1 := okv
  clear okv
  refine lv_dup hx hb d_Up_init_8 rfl ?_
  refine rs_cvZ (rs_runIZ C hi.2 hH hl (J_Ro_init l eb1 ok1_1) rc_Ro_init rfl tw_119 tw_59 rfl ⟨⟨rfl, rfl⟩, ⟨by decide, by decide⟩, Nat.le_of_ble_eq_true rfl, Nat.le_of_ble_eq_true rfl⟩ (Nat.le_of_ble_eq_true rfl) rfl d_Up_init_9) hS (fun S2 σ1 H locs hH hS hq => ?_)
  obtain ⟨eS2, eM1⟩ := hq
  have eb2 : S2.1 = (b + 3) := by rw [eS2]; rfl
  have ok0_2 : rs_Ok S2 10 b := rs_okup (n := 0) (n' := 3) hk (by simp (disch := first | exact rs_n11 rfl | exact rs_n01 | exact Nat.le_refl _ | exact rs_m11 rfl | exact rs_m01 rfl | exact rs_q11 rfl | exact rs_q01 rfl | exact rs_q10 rfl | exact rs_q00 rfl | exact rs_p11 rfl | exact rs_p01 rfl | exact rs_p10 rfl) only [eS2, eS1, rs_ad_k, rs_adm_k, KE_Ro, KF_Ro]) eb0 eb2 rfl
  have ok1_2 : rs_Ok S2 8 (b + 1) := rs_okup (n := 1) (n' := 3) ok1_1 (by simp (disch := first | exact rs_n11 rfl | exact rs_n01 | exact Nat.le_refl _ | exact rs_m11 rfl | exact rs_m01 rfl | exact rs_q11 rfl | exact rs_q01 rfl | exact rs_q10 rfl | exact rs_q00 rfl | exact rs_p11 rfl | exact rs_p01 rfl | exact rs_p10 rfl) only [eS2, rs_ad_k, rs_adm_k, KE_Ro, KF_Ro]) eb1 eb2 rfl
  refine rs_putRZ C hi hH hS (kd := 10) (k := 0) (kr := 8) ok0_2 (by decide) rfl rfl rfl rfl ok1_2 tw_120 d_Up_init_12 (fun σ2 H locs eM2 hH hS => ?_)
  have fd0_0 : rs_R σ2 b 0 = (b + 1) := by rw [eM2]; exact rs_Rsame ⟨rfl, rfl⟩
  refine lv_aload_n hx hb d_Up_init_15 rfl (lv_at hl 0 rfl) ?_
  refine lv_sipush hx hb d_Up_init_16 ks_256 ?_
  refine rs_newp C hH hS (kd := 21) (N := 256) (atype := .boolean) ⟨by decide, rfl⟩ tw_53 (by decide) (by decide) (by decide) (Nat.le_of_ble_eq_true rfl) (Nat.le_of_ble_eq_true rfl) d_Up_init_19 (fun S3 vv H eS3 ev okv hH hS => ?_)
  replace eS3 : S3 = rs_ad (b + 3) S2 21 256 := rs_ad_of eS3 eb2
  have eb3 : S3.1 = (b + 4) := by rw [eS3]; rfl
  obtain rfl : vv = (b + 4) := rs_vv ev eb2
  clear ev
  have ln4_3 : S3.2.2 (b + 4) = 256 := by rw [eS3]; exact if_pos rfl
  have ok4_3 := okv
  clear okv
  have ok0_3 : rs_Ok S3 10 b := rs_okup (n := 3) (n' := 4) ok0_2 (by simp (disch := first | exact rs_n11 rfl | exact rs_n01 | exact Nat.le_refl _ | exact rs_m11 rfl | exact rs_m01 rfl | exact rs_q11 rfl | exact rs_q01 rfl | exact rs_q10 rfl | exact rs_q00 rfl | exact rs_p11 rfl | exact rs_p01 rfl | exact rs_p10 rfl) only [eS3, rs_ad_k, rs_adm_k, KE_Ro, KF_Ro]) eb2 eb3 rfl
  refine rs_putRZ C hi hH hS (kd := 10) (k := 1) (kr := 21) ok0_3 (by decide) rfl rfl rfl rfl ok4_3 tw_122 d_Up_init_21 (fun σ3 H locs eM3 hH hS => ?_)
  have fd0_1 : rs_R σ3 b 1 = (b + 4) := by rw [eM3]; exact rs_Rsame ⟨rfl, rfl⟩
  refine lv_aload_n hx hb d_Up_init_24 rfl (lv_at hl 0 rfl) ?_
  refine lv_bipush hx hb d_Up_init_25 kb_60 ?_
  refine rs_newp C hH hS (kd := 20) (N := 60) (atype := .int) ⟨by decide, rfl⟩ tw_52 (by decide) (by decide) (by decide) (Nat.le_of_ble_eq_true rfl) (Nat.le_of_ble_eq_true rfl) d_Up_init_27 (fun S4 vv H eS4 ev okv hH hS => ?_)
  replace eS4 : S4 = rs_ad (b + 4) S3 20 60 := rs_ad_of eS4 eb3
  have eb4 : S4.1 = (b + 5) := by rw [eS4]; rfl
  obtain rfl : vv = (b + 5) := rs_vv ev eb3
  clear ev
  have ln5_4 : S4.2.2 (b + 5) = 60 := by rw [eS4]; exact if_pos rfl
  have ok5_4 := okv
  clear okv
  have ok0_4 : rs_Ok S4 10 b := rs_okup (n := 4) (n' := 5) ok0_3 (by simp (disch := first | exact rs_n11 rfl | exact rs_n01 | exact Nat.le_refl _ | exact rs_m11 rfl | exact rs_m01 rfl | exact rs_q11 rfl | exact rs_q01 rfl | exact rs_q10 rfl | exact rs_q00 rfl | exact rs_p11 rfl | exact rs_p01 rfl | exact rs_p10 rfl) only [eS4, rs_ad_k, rs_adm_k, KE_Ro, KF_Ro]) eb3 eb4 rfl
  refine rs_putNZ C hH hS (kd := 10) (k := 2) (kr := 20) ok0_4 (by decide) rfl rfl rfl ok5_4 tw_123 d_Up_init_29 (fun σ4 H locs eM4 hH hS => ?_)
  have fd0_2 : rs_R σ4 b 2 = (b + 5) := by rw [eM4]; exact rs_Rsame ⟨rfl, rfl⟩
  exact rs_vretZ C hH hS ⟨by unfold KS_Up; rw [eS4, eS3, eS2, eS1], by unfold KM_Up; rw [eM4, eM3, eM2, eM1]⟩ (Nat.le_of_ble_eq_true rfl) (Nat.le_of_ble_eq_true rfl) d_Up_init_32
