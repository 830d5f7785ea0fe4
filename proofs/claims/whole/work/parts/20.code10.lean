/-! RouteSpeakerModel.start(I)Z -/
theorem d_Mo_start_0 : decode prog_12_method_23_code 0 = .ok (.aload_n 0, 1) := by decide +kernel
theorem d_Mo_start_1 : decode prog_12_method_23_code 1 = .ok (.iload_n 1, 1) := by decide +kernel
theorem d_Mo_start_2 : decode prog_12_method_23_code 2 = .ok (.invokestatic 158, 3) := by decide +kernel
theorem d_Mo_start_5 : decode prog_12_method_23_code 5 = .ok (.ifCond .eq (7), 3) := by decide +kernel
theorem d_Mo_start_8 : decode prog_12_method_23_code 8 = .ok (.iconst 0, 1) := by decide +kernel
theorem d_Mo_start_9 : decode prog_12_method_23_code 9 = .ok (.goto (4), 3) := by decide +kernel
theorem d_Mo_start_12 : decode prog_12_method_23_code 12 = .ok (.iconst 1, 1) := by decide +kernel
theorem d_Mo_start_13 : decode prog_12_method_23_code 13 = .ok (.putfield 126, 3) := by decide +kernel
theorem d_Mo_start_16 : decode prog_12_method_23_code 16 = .ok (.aload_n 0, 1) := by decide +kernel
theorem d_Mo_start_17 : decode prog_12_method_23_code 17 = .ok (.getfield 126, 3) := by decide +kernel
theorem d_Mo_start_20 : decode prog_12_method_23_code 20 = .ok (.ifCond .ne (12), 3) := by decide +kernel
theorem d_Mo_start_23 : decode prog_12_method_23_code 23 = .ok (.aload_n 0, 1) := by decide +kernel
theorem d_Mo_start_24 : decode prog_12_method_23_code 24 = .ok (.getfield 16, 3) := by decide +kernel
theorem d_Mo_start_27 : decode prog_12_method_23_code 27 = .ok (.iload_n 1, 1) := by decide +kernel
theorem d_Mo_start_28 : decode prog_12_method_23_code 28 = .ok (.iaload, 1) := by decide +kernel
theorem d_Mo_start_29 : decode prog_12_method_23_code 29 = .ok (.ifCond .eq (5), 3) := by decide +kernel
theorem d_Mo_start_32 : decode prog_12_method_23_code 32 = .ok (.iconst 0, 1) := by decide +kernel
theorem d_Mo_start_33 : decode prog_12_method_23_code 33 = .ok (.ireturn, 1) := by decide +kernel
theorem d_Mo_start_34 : decode prog_12_method_23_code 34 = .ok (.aload_n 0, 1) := by decide +kernel
theorem d_Mo_start_35 : decode prog_12_method_23_code 35 = .ok (.getfield 16, 3) := by decide +kernel
theorem d_Mo_start_38 : decode prog_12_method_23_code 38 = .ok (.iload_n 1, 1) := by decide +kernel
theorem d_Mo_start_39 : decode prog_12_method_23_code 39 = .ok (.iconst 1, 1) := by decide +kernel
theorem d_Mo_start_40 : decode prog_12_method_23_code 40 = .ok (.iastore, 1) := by decide +kernel
theorem d_Mo_start_41 : decode prog_12_method_23_code 41 = .ok (.aload_n 0, 1) := by decide +kernel
theorem d_Mo_start_42 : decode prog_12_method_23_code 42 = .ok (.getfield 19, 3) := by decide +kernel
theorem d_Mo_start_45 : decode prog_12_method_23_code 45 = .ok (.iload_n 1, 1) := by decide +kernel
theorem d_Mo_start_46 : decode prog_12_method_23_code 46 = .ok (.bipush (8), 2) := by decide +kernel
theorem d_Mo_start_48 : decode prog_12_method_23_code 48 = .ok (.iastore, 1) := by decide +kernel
theorem d_Mo_start_49 : decode prog_12_method_23_code 49 = .ok (.aload_n 0, 1) := by decide +kernel
theorem d_Mo_start_50 : decode prog_12_method_23_code 50 = .ok (.iconst 1, 1) := by decide +kernel
theorem d_Mo_start_51 : decode prog_12_method_23_code 51 = .ok (.invokevirtual 148, 3) := by decide +kernel
theorem d_Mo_start_54 : decode prog_12_method_23_code 54 = .ok (.aload_n 0, 1) := by decide +kernel
theorem d_Mo_start_55 : decode prog_12_method_23_code 55 = .ok (.iconst 4, 1) := by decide +kernel
theorem d_Mo_start_56 : decode prog_12_method_23_code 56 = .ok (.invokevirtual 151, 3) := by decide +kernel
theorem d_Mo_start_59 : decode prog_12_method_23_code 59 = .ok (.aload_n 0, 1) := by decide +kernel
theorem d_Mo_start_60 : decode prog_12_method_23_code 60 = .ok (.bipush (100), 2) := by decide +kernel
theorem d_Mo_start_62 : decode prog_12_method_23_code 62 = .ok (.invokevirtual 151, 3) := by decide +kernel
theorem d_Mo_start_65 : decode prog_12_method_23_code 65 = .ok (.aload_n 0, 1) := by decide +kernel
theorem d_Mo_start_66 : decode prog_12_method_23_code 66 = .ok (.bipush (9), 2) := by decide +kernel
theorem d_Mo_start_68 : decode prog_12_method_23_code 68 = .ok (.invokevirtual 151, 3) := by decide +kernel
theorem d_Mo_start_71 : decode prog_12_method_23_code 71 = .ok (.aload_n 0, 1) := by decide +kernel
theorem d_Mo_start_72 : decode prog_12_method_23_code 72 = .ok (.bipush (7), 2) := by decide +kernel
theorem d_Mo_start_74 : decode prog_12_method_23_code 74 = .ok (.invokevirtual 151, 3) := by decide +kernel
theorem d_Mo_start_77 : decode prog_12_method_23_code 77 = .ok (.aload_n 0, 1) := by decide +kernel
theorem d_Mo_start_78 : decode prog_12_method_23_code 78 = .ok (.iload_n 1, 1) := by decide +kernel
theorem d_Mo_start_79 : decode prog_12_method_23_code 79 = .ok (.invokevirtual 154, 3) := by decide +kernel
theorem d_Mo_start_82 : decode prog_12_method_23_code 82 = .ok (.pop, 1) := by decide +kernel
theorem d_Mo_start_83 : decode prog_12_method_23_code 83 = .ok (.aload_n 0, 1) := by decide +kernel
theorem d_Mo_start_84 : decode prog_12_method_23_code 84 = .ok (.invokevirtual 164, 3) := by decide +kernel
theorem d_Mo_start_87 : decode prog_12_method_23_code 87 = .ok (.iconst 1, 1) := by decide +kernel
theorem d_Mo_start_88 : decode prog_12_method_23_code 88 = .ok (.ireturn, 1) := by decide +kernel
def B_Mo_start_13 (N : Nat → Nat) (Q : Int32 → rs_Mem → Prop) (v0 : Nat) (x1 : Int32) (w0 : Nat) (y1 : Int32) (σ : rs_Mem) : Prop :=
  (∀ σ51 : rs_Mem, σ51 = rs_sI σ w0 0 y1 → ((¬ ((rs_I σ51 v0 0) = 0) → (Q (0 : Int32) σ51)) ∧ ((rs_I σ51 v0 0) = 0 → (vp_in x1 (N (rs_R σ51 v0 3)) ∧ (((rs_I σ51 (rs_R σ51 v0 3) x1.toNatClampNeg) = 0 → (vp_in x1 (N (rs_R σ51 v0 3)) ∧ ∀ σ56 : rs_Mem, σ56 = rs_sI σ51 (rs_R σ51 v0 3) x1.toNatClampNeg (1 : Int32) → (vp_in x1 (N (rs_R σ56 v0 4)) ∧ ∀ σ59 : rs_Mem, σ59 = rs_sI σ56 (rs_R σ56 v0 4) x1.toNatClampNeg (8 : Int32) → (F_Mo_begin N v0 (1 : Int32) σ59 (fun σ60 => (F_Mo_add N v0 (4 : Int32) σ60 (fun σ61 => (F_Mo_add N v0 (100 : Int32) σ61 (fun σ62 => (F_Mo_add N v0 (9 : Int32) σ62 (fun σ63 => (F_Mo_add N v0 (7 : Int32) σ63 (fun σ64 => (F_Mo_send N v0 x1 σ64 (fun x66 σ65 => (F_Mo_tell N v0 σ65 (fun σ67 => (Q (1 : Int32) σ67)))))))))))))))))) ∧ (¬ ((rs_I σ51 (rs_R σ51 v0 3) x1.toNatClampNeg) = 0) → (Q (0 : Int32) σ51)))))))
def F_Mo_start (N : Nat → Nat) (v0 : Nat) (x1 : Int32) (σ : rs_Mem) (Q : Int32 → rs_Mem → Prop) : Prop :=
  (F_Mo_isPeer N x1 σ (fun x52 σ51 => ((x52 = 0 → (B_Mo_start_13 N Q v0 x1 v0 (1 : Int32) σ51)) ∧ (¬ (x52 = 0) → (B_Mo_start_13 N Q v0 x1 v0 (0 : Int32) σ51)))))
set_option maxRecDepth 20000 in
theorem JB_Mo_start_13 {p : Program} {l : Launch} {e : Env} {s : State} {m : MethodId} {args : Array Value} {below : List Frame} {meth : Method} {c : Code} {G : rs_G} {Bm : Nat} {S : rs_Shp} {Q : Int32 → rs_Mem → Prop} (C : rs_C "RouteSpeakerModel" prog_12_method_23_code 2 (some .boolean) G p s m meth c args) (v0 : Nat) (x1 : Int32) (w0 : Nat) (y1 : Int32) (σ : rs_Mem) (H : Heap) (locs : List Loc) (ls : Array Slot) (h_v0 : rs_Ok S 11 v0) (h_w0 : rs_Ok S 11 w0) (hH : rs_H G Bm S σ H) (hT : rs_T S σ) (hS : va_S (rs_A Bm) s.heap H locs) (hl : lv_has ls 2 [(0, .ref (Bm + v0)), (1, .int x1)]) (hF : B_Mo_start_13 S.2.2 Q v0 x1 w0 y1 σ) :
    W p l e { frames := 9, cells := 0, slots := 0, locals := 208 } s m args below meth c H locs 0 0 (MQ below (rs_Qi G Bm S Q) args s 0 0 (rs_A Bm)) (F0 m 13 ls [.int y1, .ref (Bm + w0)]) := by
  have hx := C.1
  have hb := C.2.1
  unfold B_Mo_start_13 at hF
  refine rs_putI C hH hT hS h_w0 fk_11_0 rfl tw_899 d_Mo_start_13 (fun σ51 H locs eσ51 hH hT hS => ?_)
  replace hF := hF σ51 eσ51
  refine lv_aload_n hx hb d_Mo_start_16 rfl (lv_at hl 0 rfl) ?_
  refine rs_getI C hH h_v0 fk_11_0 tw_899 d_Mo_start_17 ?_
  refine lv_if_ne hx hb d_Mo_start_20 (tgt := 32) rfl (fun hc => ?_) (fun hc => ?_)
  · replace hF := hF.1 hc
    refine lv_iconst hx hb d_Mo_start_32 ki_0 ?_
    exact rs_zret C hH hT hS (by decide) hF d_Mo_start_33
  · replace hF := hF.2 hc
    refine lv_aload_n hx hb d_Mo_start_23 rfl (lv_at hl 0 rfl) ?_
    refine rs_getR C hH hT h_v0 fk_11_3 tw_902 d_Mo_start_24 (fun h52 => ?_)
    refine lv_iload_n hx hb d_Mo_start_27 rfl (lv_at hl 1 rfl) ?_
    obtain ⟨g53, hF⟩ := hF
    refine rs_iald C hH h52 g53 d_Mo_start_28 ?_
    refine lv_if_eq hx hb d_Mo_start_29 (tgt := 34) rfl (fun hc => ?_) (fun hc => ?_)
    · replace hF := hF.1 hc
      refine lv_aload_n hx hb d_Mo_start_34 rfl (lv_at hl 0 rfl) ?_
      refine rs_getR C hH hT h_v0 fk_11_3 tw_902 d_Mo_start_35 (fun h54 => ?_)
      refine lv_iload_n hx hb d_Mo_start_38 rfl (lv_at hl 1 rfl) ?_
      refine lv_iconst hx hb d_Mo_start_39 ki_1 ?_
      obtain ⟨g55, hF⟩ := hF
      refine rs_iast C hH hT hS h54 g55 d_Mo_start_40 (fun σ56 H locs eσ56 hH hT hS => ?_)
      replace hF := hF σ56 eσ56
      refine lv_aload_n hx hb d_Mo_start_41 rfl (lv_at hl 0 rfl) ?_
      refine rs_getR C hH hT h_v0 fk_11_4 tw_903 d_Mo_start_42 (fun h57 => ?_)
      refine lv_iload_n hx hb d_Mo_start_45 rfl (lv_at hl 1 rfl) ?_
      refine lv_bipush hx hb d_Mo_start_46 kb_8 ?_
      obtain ⟨g58, hF⟩ := hF
      refine rs_iast C hH hT hS h57 g58 d_Mo_start_48 (fun σ59 H locs eσ59 hH hT hS => ?_)
      replace hF := hF σ59 eσ59
      refine lv_aload_n hx hb d_Mo_start_49 rfl (lv_at hl 0 rfl) ?_
      refine lv_iconst hx hb d_Mo_start_50 ki_1 ?_
      refine rs_cv (rs_runV C hH hT hl (J_Mo_begin l h_v0 hF) rc_Mo_begin tw_1116 tw_1118 ts_52 h_v0 ⟨rfl, by decide, by decide⟩ rfl ⟨⟨rfl, rfl⟩, by decide, by decide, by decide⟩ (Nat.le_of_ble_eq_true rfl) rfl d_Mo_start_51) hS (fun σ60 H locs hH hT hS hF => ?_)
      refine lv_aload_n hx hb d_Mo_start_54 rfl (lv_at hl 0 rfl) ?_
      refine lv_iconst hx hb d_Mo_start_55 ki_4 ?_
      refine rs_cv (rs_runV C hH hT hl (J_Mo_add l h_v0 hF) rc_Mo_add tw_1120 tw_1122 ts_53 h_v0 ⟨rfl, by decide, by decide⟩ rfl ⟨⟨rfl, rfl⟩, by decide, by decide, by decide⟩ (Nat.le_of_ble_eq_true rfl) rfl d_Mo_start_56) hS (fun σ61 H locs hH hT hS hF => ?_)
      refine lv_aload_n hx hb d_Mo_start_59 rfl (lv_at hl 0 rfl) ?_
      refine lv_bipush hx hb d_Mo_start_60 kb_100 ?_
      refine rs_cv (rs_runV C hH hT hl (J_Mo_add l h_v0 hF) rc_Mo_add tw_1120 tw_1122 ts_53 h_v0 ⟨rfl, by decide, by decide⟩ rfl ⟨⟨rfl, rfl⟩, by decide, by decide, by decide⟩ (Nat.le_of_ble_eq_true rfl) rfl d_Mo_start_62) hS (fun σ62 H locs hH hT hS hF => ?_)
      refine lv_aload_n hx hb d_Mo_start_65 rfl (lv_at hl 0 rfl) ?_
      refine lv_bipush hx hb d_Mo_start_66 kb_9 ?_
      refine rs_cv (rs_runV C hH hT hl (J_Mo_add l h_v0 hF) rc_Mo_add tw_1120 tw_1122 ts_53 h_v0 ⟨rfl, by decide, by decide⟩ rfl ⟨⟨rfl, rfl⟩, by decide, by decide, by decide⟩ (Nat.le_of_ble_eq_true rfl) rfl d_Mo_start_68) hS (fun σ63 H locs hH hT hS hF => ?_)
      refine lv_aload_n hx hb d_Mo_start_71 rfl (lv_at hl 0 rfl) ?_
      refine lv_bipush hx hb d_Mo_start_72 kb_7 ?_
      refine rs_cv (rs_runV C hH hT hl (J_Mo_add l h_v0 hF) rc_Mo_add tw_1120 tw_1122 ts_53 h_v0 ⟨rfl, by decide, by decide⟩ rfl ⟨⟨rfl, rfl⟩, by decide, by decide, by decide⟩ (Nat.le_of_ble_eq_true rfl) rfl d_Mo_start_74) hS (fun σ64 H locs hH hT hS hF => ?_)
      refine lv_aload_n hx hb d_Mo_start_77 rfl (lv_at hl 0 rfl) ?_
      refine lv_iload_n hx hb d_Mo_start_78 rfl (lv_at hl 1 rfl) ?_
      refine rs_ci (rs_runV C hH hT hl (J_Mo_send l h_v0 hF) rc_Mo_send tw_1124 tw_1126 ts_54 h_v0 ⟨rfl, by decide, by decide⟩ rfl ⟨⟨rfl, rfl⟩, by decide, by decide, by decide⟩ (Nat.le_of_ble_eq_true rfl) rfl d_Mo_start_79) hS (fun x66 σ65 H locs hH hT hS hF => ?_)
      refine lv_pop hx hb d_Mo_start_82 rfl ?_
      refine lv_aload_n hx hb d_Mo_start_83 rfl (lv_at hl 0 rfl) ?_
      refine rs_cv (rs_runV C hH hT hl (J_Mo_tell l h_v0 hF) rc_Mo_tell tw_1037 tw_1039 ts_34 h_v0 ⟨rfl, by decide, by decide⟩ rfl ⟨⟨rfl, rfl⟩, by decide, by decide, by decide⟩ (Nat.le_of_ble_eq_true rfl) rfl d_Mo_start_84) hS (fun σ67 H locs hH hT hS hF => ?_)
      refine lv_iconst hx hb d_Mo_start_87 ki_1 ?_
      exact rs_zret C hH hT hS (by decide) hF d_Mo_start_88
    · replace hF := hF.2 hc
      refine lv_iconst hx hb d_Mo_start_32 ki_0 ?_
      exact rs_zret C hH hT hS (by decide) hF d_Mo_start_33
abbrev y_Mo_start : MethodName := ({ cls := "RouteSpeakerModel", name := "start", desc := "(I)Z" } : Jvm.MethodName)
theorem rc_Mo_start : rs_Cal y_Mo_start prog_12_method_23_code 2 (some .boolean) 1 := ⟨tw_1166, tw_11, by decide, by decide, by decide +kernel⟩
set_option maxRecDepth 20000 in
theorem J_Mo_start (l : Launch) {G : rs_G} {Bm : Nat} {S : rs_Shp} {v0 : Nat} {x1 : Int32} {σ : rs_Mem} {Q : Int32 → rs_Mem → Prop} (h_v0 : rs_Ok S 11 v0) (hF : F_Mo_start S.2.2 v0 x1 σ Q) :
    Met l y_Mo_start (rs_ws y_Mo_start prog_12_method_23_code 2 (some .boolean)) { frames := 9, cells := 0, slots := 0, locals := 208 } (rs_P G Bm S σ [.ref (Bm + v0), .int x1]) (rs_Qi G Bm S Q) 0 0 (rs_A Bm) := by
  refine rs_met (own := "RouteSpeakerModel") (by decide) rfl (Nat.le_of_ble_eq_true rfl) (fun p e s m below meth c ls C hl hH hT hS => ?_)
  replace hl : lv_has ls 2 [(0, .ref (Bm + v0)), (1, .int x1)] := hl
  have hx := C.1
  have hb := C.2.1
  unfold F_Mo_start at hF
  refine lv_aload_n hx hb d_Mo_start_0 rfl (lv_at hl 0 rfl) ?_
  refine lv_iload_n hx hb d_Mo_start_1 rfl (lv_at hl 1 rfl) ?_
  refine rs_ci (rs_runS C hH hT hl (J_Mo_isPeer l hF) rc_Mo_isPeer tw_1031 tw_1032 rfl ⟨⟨rfl, rfl⟩, by decide, by decide, by decide⟩ (Nat.le_of_ble_eq_true rfl) rfl d_Mo_start_2) hS (fun x52 σ51 H locs hH hT hS hF => ?_)
  refine lv_if_eq hx hb d_Mo_start_5 (tgt := 12) rfl (fun hc => ?_) (fun hc => ?_)
  · replace hF := hF.1 hc
    refine lv_iconst hx hb d_Mo_start_12 ki_1 ?_
    exact JB_Mo_start_13 C v0 x1 v0 (1 : Int32) σ51 _ _ _ h_v0 h_v0 hH hT hS (lv_sub hl [0, 1] rfl) hF
  · replace hF := hF.2 hc
    refine lv_iconst hx hb d_Mo_start_8 ki_0 ?_
    refine lv_goto hx hb d_Mo_start_9 (tgt := 13) rfl ?_
    exact JB_Mo_start_13 C v0 x1 v0 (0 : Int32) σ51 _ _ _ h_v0 h_v0 hH hT hS (lv_sub hl [0, 1] rfl) hF
/-! RouteSpeakerModel.stop(I)Z -/
theorem d_Mo_stop_0 : decode prog_12_method_24_code 0 = .ok (.aload_n 0, 1) := by decide +kernel
theorem d_Mo_stop_1 : decode prog_12_method_24_code 1 = .ok (.iload_n 1, 1) := by decide +kernel
theorem d_Mo_stop_2 : decode prog_12_method_24_code 2 = .ok (.invokestatic 158, 3) := by decide +kernel
theorem d_Mo_stop_5 : decode prog_12_method_24_code 5 = .ok (.ifCond .eq (7), 3) := by decide +kernel
theorem d_Mo_stop_8 : decode prog_12_method_24_code 8 = .ok (.iconst 0, 1) := by decide +kernel
theorem d_Mo_stop_9 : decode prog_12_method_24_code 9 = .ok (.goto (4), 3) := by decide +kernel
theorem d_Mo_stop_12 : decode prog_12_method_24_code 12 = .ok (.iconst 1, 1) := by decide +kernel
theorem d_Mo_stop_13 : decode prog_12_method_24_code 13 = .ok (.putfield 126, 3) := by decide +kernel
theorem d_Mo_stop_16 : decode prog_12_method_24_code 16 = .ok (.aload_n 0, 1) := by decide +kernel
theorem d_Mo_stop_17 : decode prog_12_method_24_code 17 = .ok (.getfield 126, 3) := by decide +kernel
theorem d_Mo_stop_20 : decode prog_12_method_24_code 20 = .ok (.ifCond .ne (12), 3) := by decide +kernel
theorem d_Mo_stop_23 : decode prog_12_method_24_code 23 = .ok (.aload_n 0, 1) := by decide +kernel
theorem d_Mo_stop_24 : decode prog_12_method_24_code 24 = .ok (.getfield 16, 3) := by decide +kernel
theorem d_Mo_stop_27 : decode prog_12_method_24_code 27 = .ok (.iload_n 1, 1) := by decide +kernel
theorem d_Mo_stop_28 : decode prog_12_method_24_code 28 = .ok (.iaload, 1) := by decide +kernel
theorem d_Mo_stop_29 : decode prog_12_method_24_code 29 = .ok (.ifCond .ne (5), 3) := by decide +kernel
theorem d_Mo_stop_32 : decode prog_12_method_24_code 32 = .ok (.iconst 0, 1) := by decide +kernel
theorem d_Mo_stop_33 : decode prog_12_method_24_code 33 = .ok (.ireturn, 1) := by decide +kernel
theorem d_Mo_stop_34 : decode prog_12_method_24_code 34 = .ok (.aload_n 0, 1) := by decide +kernel
theorem d_Mo_stop_35 : decode prog_12_method_24_code 35 = .ok (.iload_n 1, 1) := by decide +kernel
theorem d_Mo_stop_36 : decode prog_12_method_24_code 36 = .ok (.bipush (6), 2) := by decide +kernel
theorem d_Mo_stop_38 : decode prog_12_method_24_code 38 = .ok (.iconst 2, 1) := by decide +kernel
theorem d_Mo_stop_39 : decode prog_12_method_24_code 39 = .ok (.invokevirtual 174, 3) := by decide +kernel
theorem d_Mo_stop_42 : decode prog_12_method_24_code 42 = .ok (.aload_n 0, 1) := by decide +kernel
theorem d_Mo_stop_43 : decode prog_12_method_24_code 43 = .ok (.invokevirtual 164, 3) := by decide +kernel
theorem d_Mo_stop_46 : decode prog_12_method_24_code 46 = .ok (.iconst 1, 1) := by decide +kernel
theorem d_Mo_stop_47 : decode prog_12_method_24_code 47 = .ok (.ireturn, 1) := by decide +kernel
def B_Mo_stop_13 (N : Nat → Nat) (Q : Int32 → rs_Mem → Prop) (v0 : Nat) (x1 : Int32) (w0 : Nat) (y1 : Int32) (σ : rs_Mem) : Prop :=
  (∀ σ51 : rs_Mem, σ51 = rs_sI σ w0 0 y1 → ((¬ ((rs_I σ51 v0 0) = 0) → (Q (0 : Int32) σ51)) ∧ ((rs_I σ51 v0 0) = 0 → (vp_in x1 (N (rs_R σ51 v0 3)) ∧ ((¬ ((rs_I σ51 (rs_R σ51 v0 3) x1.toNatClampNeg) = 0) → (F_Mo_end N v0 x1 (6 : Int32) (2 : Int32) σ51 (fun σ54 => (F_Mo_tell N v0 σ54 (fun σ55 => (Q (1 : Int32) σ55)))))) ∧ ((rs_I σ51 (rs_R σ51 v0 3) x1.toNatClampNeg) = 0 → (Q (0 : Int32) σ51)))))))
def F_Mo_stop (N : Nat → Nat) (v0 : Nat) (x1 : Int32) (σ : rs_Mem) (Q : Int32 → rs_Mem → Prop) : Prop :=
  (F_Mo_isPeer N x1 σ (fun x52 σ51 => ((x52 = 0 → (B_Mo_stop_13 N Q v0 x1 v0 (1 : Int32) σ51)) ∧ (¬ (x52 = 0) → (B_Mo_stop_13 N Q v0 x1 v0 (0 : Int32) σ51)))))
set_option maxRecDepth 20000 in
theorem JB_Mo_stop_13 {p : Program} {l : Launch} {e : Env} {s : State} {m : MethodId} {args : Array Value} {below : List Frame} {meth : Method} {c : Code} {G : rs_G} {Bm : Nat} {S : rs_Shp} {Q : Int32 → rs_Mem → Prop} (C : rs_C "RouteSpeakerModel" prog_12_method_24_code 2 (some .boolean) G p s m meth c args) (v0 : Nat) (x1 : Int32) (w0 : Nat) (y1 : Int32) (σ : rs_Mem) (H : Heap) (locs : List Loc) (ls : Array Slot) (h_v0 : rs_Ok S 11 v0) (h_w0 : rs_Ok S 11 w0) (hH : rs_H G Bm S σ H) (hT : rs_T S σ) (hS : va_S (rs_A Bm) s.heap H locs) (hl : lv_has ls 2 [(0, .ref (Bm + v0)), (1, .int x1)]) (hF : B_Mo_stop_13 S.2.2 Q v0 x1 w0 y1 σ) :
    W p l e { frames := 9, cells := 0, slots := 0, locals := 208 } s m args below meth c H locs 0 0 (MQ below (rs_Qi G Bm S Q) args s 0 0 (rs_A Bm)) (F0 m 13 ls [.int y1, .ref (Bm + w0)]) := by
  have hx := C.1
  have hb := C.2.1
  unfold B_Mo_stop_13 at hF
  refine rs_putI C hH hT hS h_w0 fk_11_0 rfl tw_899 d_Mo_stop_13 (fun σ51 H locs eσ51 hH hT hS => ?_)
  replace hF := hF σ51 eσ51
  refine lv_aload_n hx hb d_Mo_stop_16 rfl (lv_at hl 0 rfl) ?_
  refine rs_getI C hH h_v0 fk_11_0 tw_899 d_Mo_stop_17 ?_
  refine lv_if_ne hx hb d_Mo_stop_20 (tgt := 32) rfl (fun hc => ?_) (fun hc => ?_)
  · replace hF := hF.1 hc
    refine lv_iconst hx hb d_Mo_stop_32 ki_0 ?_
    exact rs_zret C hH hT hS (by decide) hF d_Mo_stop_33
  · replace hF := hF.2 hc
    refine lv_aload_n hx hb d_Mo_stop_23 rfl (lv_at hl 0 rfl) ?_
    refine rs_getR C hH hT h_v0 fk_11_3 tw_902 d_Mo_stop_24 (fun h52 => ?_)
    refine lv_iload_n hx hb d_Mo_stop_27 rfl (lv_at hl 1 rfl) ?_
    obtain ⟨g53, hF⟩ := hF
    refine rs_iald C hH h52 g53 d_Mo_stop_28 ?_
    refine lv_if_ne hx hb d_Mo_stop_29 (tgt := 34) rfl (fun hc => ?_) (fun hc => ?_)
    · replace hF := hF.1 hc
      refine lv_aload_n hx hb d_Mo_stop_34 rfl (lv_at hl 0 rfl) ?_
      refine lv_iload_n hx hb d_Mo_stop_35 rfl (lv_at hl 1 rfl) ?_
      refine lv_bipush hx hb d_Mo_stop_36 kb_6 ?_
      refine lv_iconst hx hb d_Mo_stop_38 ki_2 ?_
      refine rs_cv (rs_runV C hH hT hl (J_Mo_end l h_v0 hF) rc_Mo_end tw_1171 tw_1173 ts_58 h_v0 ⟨rfl, by decide, by decide⟩ rfl ⟨⟨rfl, rfl⟩, by decide, by decide, by decide⟩ (Nat.le_of_ble_eq_true rfl) rfl d_Mo_stop_39) hS (fun σ54 H locs hH hT hS hF => ?_)
      refine lv_aload_n hx hb d_Mo_stop_42 rfl (lv_at hl 0 rfl) ?_
      refine rs_cv (rs_runV C hH hT hl (J_Mo_tell l h_v0 hF) rc_Mo_tell tw_1037 tw_1039 ts_34 h_v0 ⟨rfl, by decide, by decide⟩ rfl ⟨⟨rfl, rfl⟩, by decide, by decide, by decide⟩ (Nat.le_of_ble_eq_true rfl) rfl d_Mo_stop_43) hS (fun σ55 H locs hH hT hS hF => ?_)
      refine lv_iconst hx hb d_Mo_stop_46 ki_1 ?_
      exact rs_zret C hH hT hS (by decide) hF d_Mo_stop_47
    · replace hF := hF.2 hc
      refine lv_iconst hx hb d_Mo_stop_32 ki_0 ?_
      exact rs_zret C hH hT hS (by decide) hF d_Mo_stop_33
abbrev y_Mo_stop : MethodName := ({ cls := "RouteSpeakerModel", name := "stop", desc := "(I)Z" } : Jvm.MethodName)
theorem rc_Mo_stop : rs_Cal y_Mo_stop prog_12_method_24_code 2 (some .boolean) 1 := ⟨tw_1170, tw_11, by decide, by decide, by decide +kernel⟩
set_option maxRecDepth 20000 in
theorem J_Mo_stop (l : Launch) {G : rs_G} {Bm : Nat} {S : rs_Shp} {v0 : Nat} {x1 : Int32} {σ : rs_Mem} {Q : Int32 → rs_Mem → Prop} (h_v0 : rs_Ok S 11 v0) (hF : F_Mo_stop S.2.2 v0 x1 σ Q) :
    Met l y_Mo_stop (rs_ws y_Mo_stop prog_12_method_24_code 2 (some .boolean)) { frames := 9, cells := 0, slots := 0, locals := 208 } (rs_P G Bm S σ [.ref (Bm + v0), .int x1]) (rs_Qi G Bm S Q) 0 0 (rs_A Bm) := by
  refine rs_met (own := "RouteSpeakerModel") (by decide) rfl (Nat.le_of_ble_eq_true rfl) (fun p e s m below meth c ls C hl hH hT hS => ?_)
  replace hl : lv_has ls 2 [(0, .ref (Bm + v0)), (1, .int x1)] := hl
  have hx := C.1
  have hb := C.2.1
  unfold F_Mo_stop at hF
  refine lv_aload_n hx hb d_Mo_stop_0 rfl (lv_at hl 0 rfl) ?_
  refine lv_iload_n hx hb d_Mo_stop_1 rfl (lv_at hl 1 rfl) ?_
  refine rs_ci (rs_runS C hH hT hl (J_Mo_isPeer l hF) rc_Mo_isPeer tw_1031 tw_1032 rfl ⟨⟨rfl, rfl⟩, by decide, by decide, by decide⟩ (Nat.le_of_ble_eq_true rfl) rfl d_Mo_stop_2) hS (fun x52 σ51 H locs hH hT hS hF => ?_)
  refine lv_if_eq hx hb d_Mo_stop_5 (tgt := 12) rfl (fun hc => ?_) (fun hc => ?_)
  · replace hF := hF.1 hc
    refine lv_iconst hx hb d_Mo_stop_12 ki_1 ?_
    exact JB_Mo_stop_13 C v0 x1 v0 (1 : Int32) σ51 _ _ _ h_v0 h_v0 hH hT hS (lv_sub hl [0, 1] rfl) hF
  · replace hF := hF.2 hc
    refine lv_iconst hx hb d_Mo_stop_8 ki_0 ?_
    refine lv_goto hx hb d_Mo_stop_9 (tgt := 13) rfl ?_
    exact JB_Mo_stop_13 C v0 x1 v0 (0 : Int32) σ51 _ _ _ h_v0 h_v0 hH hT hS (lv_sub hl [0, 1] rfl) hF
/-! RouteSpeakerModel.opened(III)V -/
theorem d_Mo_opened_0 : decode prog_12_method_28_code 0 = .ok (.aload_n 0, 1) := by decide +kernel
theorem d_Mo_opened_1 : decode prog_12_method_28_code 1 = .ok (.getfield 52, 3) := by decide +kernel
theorem d_Mo_opened_4 : decode prog_12_method_28_code 4 = .ok (.iload_n 3, 1) := by decide +kernel
theorem d_Mo_opened_5 : decode prog_12_method_28_code 5 = .ok (.iconst 4, 1) := by decide +kernel
theorem d_Mo_opened_6 : decode prog_12_method_28_code 6 = .ok (.iadd, 1) := by decide +kernel
theorem d_Mo_opened_7 : decode prog_12_method_28_code 7 = .ok (.iaload, 1) := by decide +kernel
theorem d_Mo_opened_8 : decode prog_12_method_28_code 8 = .ok (.istore 4, 2) := by decide +kernel
theorem d_Mo_opened_10 : decode prog_12_method_28_code 10 = .ok (.iload_n 2, 1) := by decide +kernel
theorem d_Mo_opened_11 : decode prog_12_method_28_code 11 = .ok (.iconst 1, 1) := by decide +kernel
theorem d_Mo_opened_12 : decode prog_12_method_28_code 12 = .ok (.if_icmp .eq (13), 3) := by decide +kernel
theorem d_Mo_opened_15 : decode prog_12_method_28_code 15 = .ok (.aload_n 0, 1) := by decide +kernel
theorem d_Mo_opened_16 : decode prog_12_method_28_code 16 = .ok (.iload_n 1, 1) := by decide +kernel
theorem d_Mo_opened_17 : decode prog_12_method_28_code 17 = .ok (.iconst 5, 1) := by decide +kernel
theorem d_Mo_opened_18 : decode prog_12_method_28_code 18 = .ok (.iconst 1, 1) := by decide +kernel
theorem d_Mo_opened_19 : decode prog_12_method_28_code 19 = .ok (.invokevirtual 174, 3) := by decide +kernel
theorem d_Mo_opened_22 : decode prog_12_method_28_code 22 = .ok (.goto (170), 3) := by decide +kernel
theorem d_Mo_opened_25 : decode prog_12_method_28_code 25 = .ok (.aload_n 0, 1) := by decide +kernel
theorem d_Mo_opened_26 : decode prog_12_method_28_code 26 = .ok (.getfield 52, 3) := by decide +kernel
theorem d_Mo_opened_29 : decode prog_12_method_28_code 29 = .ok (.iload_n 3, 1) := by decide +kernel
theorem d_Mo_opened_30 : decode prog_12_method_28_code 30 = .ok (.iconst 2, 1) := by decide +kernel
theorem d_Mo_opened_31 : decode prog_12_method_28_code 31 = .ok (.iadd, 1) := by decide +kernel
theorem d_Mo_opened_32 : decode prog_12_method_28_code 32 = .ok (.iaload, 1) := by decide +kernel
theorem d_Mo_opened_33 : decode prog_12_method_28_code 33 = .ok (.iconst 4, 1) := by decide +kernel
theorem d_Mo_opened_34 : decode prog_12_method_28_code 34 = .ok (.if_icmp .eq (13), 3) := by decide +kernel
theorem d_Mo_opened_37 : decode prog_12_method_28_code 37 = .ok (.aload_n 0, 1) := by decide +kernel
theorem d_Mo_opened_38 : decode prog_12_method_28_code 38 = .ok (.iload_n 1, 1) := by decide +kernel
theorem d_Mo_opened_39 : decode prog_12_method_28_code 39 = .ok (.iconst 2, 1) := by decide +kernel
theorem d_Mo_opened_40 : decode prog_12_method_28_code 40 = .ok (.iconst 1, 1) := by decide +kernel
theorem d_Mo_opened_41 : decode prog_12_method_28_code 41 = .ok (.invokevirtual 174, 3) := by decide +kernel
theorem d_Mo_opened_44 : decode prog_12_method_28_code 44 = .ok (.goto (148), 3) := by decide +kernel
theorem d_Mo_opened_47 : decode prog_12_method_28_code 47 = .ok (.aload_n 0, 1) := by decide +kernel
theorem d_Mo_opened_48 : decode prog_12_method_28_code 48 = .ok (.getfield 52, 3) := by decide +kernel
theorem d_Mo_opened_51 : decode prog_12_method_28_code 51 = .ok (.iload_n 3, 1) := by decide +kernel
theorem d_Mo_opened_52 : decode prog_12_method_28_code 52 = .ok (.iconst 3, 1) := by decide +kernel
theorem d_Mo_opened_53 : decode prog_12_method_28_code 53 = .ok (.iadd, 1) := by decide +kernel
theorem d_Mo_opened_54 : decode prog_12_method_28_code 54 = .ok (.iaload, 1) := by decide +kernel
theorem d_Mo_opened_55 : decode prog_12_method_28_code 55 = .ok (.aload_n 0, 1) := by decide +kernel
theorem d_Mo_opened_56 : decode prog_12_method_28_code 56 = .ok (.getfield 13, 3) := by decide +kernel
theorem d_Mo_opened_59 : decode prog_12_method_28_code 59 = .ok (.iload_n 1, 1) := by decide +kernel
theorem d_Mo_opened_60 : decode prog_12_method_28_code 60 = .ok (.iaload, 1) := by decide +kernel
theorem d_Mo_opened_61 : decode prog_12_method_28_code 61 = .ok (.if_icmp .eq (13), 3) := by decide +kernel
theorem d_Mo_opened_64 : decode prog_12_method_28_code 64 = .ok (.aload_n 0, 1) := by decide +kernel
theorem d_Mo_opened_65 : decode prog_12_method_28_code 65 = .ok (.iload_n 1, 1) := by decide +kernel
theorem d_Mo_opened_66 : decode prog_12_method_28_code 66 = .ok (.iconst 2, 1) := by decide +kernel
theorem d_Mo_opened_67 : decode prog_12_method_28_code 67 = .ok (.iconst 2, 1) := by decide +kernel
theorem d_Mo_opened_68 : decode prog_12_method_28_code 68 = .ok (.invokevirtual 174, 3) := by decide +kernel
theorem d_Mo_opened_71 : decode prog_12_method_28_code 71 = .ok (.goto (121), 3) := by decide +kernel
theorem d_Mo_opened_74 : decode prog_12_method_28_code 74 = .ok (.aload_n 0, 1) := by decide +kernel
theorem d_Mo_opened_75 : decode prog_12_method_28_code 75 = .ok (.getfield 52, 3) := by decide +kernel
theorem d_Mo_opened_78 : decode prog_12_method_28_code 78 = .ok (.iload_n 3, 1) := by decide +kernel
theorem d_Mo_opened_79 : decode prog_12_method_28_code 79 = .ok (.iconst 5, 1) := by decide +kernel
theorem d_Mo_opened_80 : decode prog_12_method_28_code 80 = .ok (.iadd, 1) := by decide +kernel
theorem d_Mo_opened_81 : decode prog_12_method_28_code 81 = .ok (.iaload, 1) := by decide +kernel
theorem d_Mo_opened_82 : decode prog_12_method_28_code 82 = .ok (.invokestatic 161, 3) := by decide +kernel
theorem d_Mo_opened_85 : decode prog_12_method_28_code 85 = .ok (.ifCond .eq (16), 3) := by decide +kernel
theorem d_Mo_opened_88 : decode prog_12_method_28_code 88 = .ok (.aload_n 0, 1) := by decide +kernel
theorem d_Mo_opened_89 : decode prog_12_method_28_code 89 = .ok (.getfield 52, 3) := by decide +kernel
theorem d_Mo_opened_92 : decode prog_12_method_28_code 92 = .ok (.iload_n 3, 1) := by decide +kernel
theorem d_Mo_opened_93 : decode prog_12_method_28_code 93 = .ok (.iconst 5, 1) := by decide +kernel
theorem d_Mo_opened_94 : decode prog_12_method_28_code 94 = .ok (.iadd, 1) := by decide +kernel
theorem d_Mo_opened_95 : decode prog_12_method_28_code 95 = .ok (.iaload, 1) := by decide +kernel
theorem d_Mo_opened_96 : decode prog_12_method_28_code 96 = .ok (.bipush (7), 2) := by decide +kernel
theorem d_Mo_opened_98 : decode prog_12_method_28_code 98 = .ok (.if_icmp .ne (13), 3) := by decide +kernel
theorem d_Mo_opened_101 : decode prog_12_method_28_code 101 = .ok (.aload_n 0, 1) := by decide +kernel
theorem d_Mo_opened_102 : decode prog_12_method_28_code 102 = .ok (.iload_n 1, 1) := by decide +kernel
theorem d_Mo_opened_103 : decode prog_12_method_28_code 103 = .ok (.iconst 2, 1) := by decide +kernel
theorem d_Mo_opened_104 : decode prog_12_method_28_code 104 = .ok (.iconst 3, 1) := by decide +kernel
theorem d_Mo_opened_105 : decode prog_12_method_28_code 105 = .ok (.invokevirtual 174, 3) := by decide +kernel
theorem d_Mo_opened_108 : decode prog_12_method_28_code 108 = .ok (.goto (84), 3) := by decide +kernel
theorem d_Mo_opened_111 : decode prog_12_method_28_code 111 = .ok (.iload 4, 2) := by decide +kernel
theorem d_Mo_opened_113 : decode prog_12_method_28_code 113 = .ok (.iconst 1, 1) := by decide +kernel
theorem d_Mo_opened_114 : decode prog_12_method_28_code 114 = .ok (.if_icmp .eq (9), 3) := by decide +kernel
theorem d_Mo_opened_117 : decode prog_12_method_28_code 117 = .ok (.iload 4, 2) := by decide +kernel
theorem d_Mo_opened_119 : decode prog_12_method_28_code 119 = .ok (.iconst 2, 1) := by decide +kernel
theorem d_Mo_opened_120 : decode prog_12_method_28_code 120 = .ok (.if_icmp .ne (14), 3) := by decide +kernel
theorem d_Mo_opened_123 : decode prog_12_method_28_code 123 = .ok (.aload_n 0, 1) := by decide +kernel
theorem d_Mo_opened_124 : decode prog_12_method_28_code 124 = .ok (.iload_n 1, 1) := by decide +kernel
theorem d_Mo_opened_125 : decode prog_12_method_28_code 125 = .ok (.iconst 2, 1) := by decide +kernel
theorem d_Mo_opened_126 : decode prog_12_method_28_code 126 = .ok (.bipush (6), 2) := by decide +kernel
theorem d_Mo_opened_128 : decode prog_12_method_28_code 128 = .ok (.invokevirtual 174, 3) := by decide +kernel
theorem d_Mo_opened_131 : decode prog_12_method_28_code 131 = .ok (.goto (61), 3) := by decide +kernel
theorem d_Mo_opened_134 : decode prog_12_method_28_code 134 = .ok (.aload_n 0, 1) := by decide +kernel
theorem d_Mo_opened_135 : decode prog_12_method_28_code 135 = .ok (.getfield 25, 3) := by decide +kernel
theorem d_Mo_opened_138 : decode prog_12_method_28_code 138 = .ok (.iload_n 1, 1) := by decide +kernel
theorem d_Mo_opened_139 : decode prog_12_method_28_code 139 = .ok (.iload 4, 2) := by decide +kernel
theorem d_Mo_opened_141 : decode prog_12_method_28_code 141 = .ok (.bipush (9), 2) := by decide +kernel
theorem d_Mo_opened_143 : decode prog_12_method_28_code 143 = .ok (.if_icmp .ge (8), 3) := by decide +kernel
theorem d_Mo_opened_146 : decode prog_12_method_28_code 146 = .ok (.iload 4, 2) := by decide +kernel
theorem d_Mo_opened_148 : decode prog_12_method_28_code 148 = .ok (.goto (5), 3) := by decide +kernel
theorem d_Mo_opened_151 : decode prog_12_method_28_code 151 = .ok (.bipush (9), 2) := by decide +kernel
theorem d_Mo_opened_153 : decode prog_12_method_28_code 153 = .ok (.iastore, 1) := by decide +kernel
theorem d_Mo_opened_154 : decode prog_12_method_28_code 154 = .ok (.aload_n 0, 1) := by decide +kernel
theorem d_Mo_opened_155 : decode prog_12_method_28_code 155 = .ok (.getfield 28, 3) := by decide +kernel
theorem d_Mo_opened_158 : decode prog_12_method_28_code 158 = .ok (.iload_n 1, 1) := by decide +kernel
theorem d_Mo_opened_159 : decode prog_12_method_28_code 159 = .ok (.aload_n 0, 1) := by decide +kernel
theorem d_Mo_opened_160 : decode prog_12_method_28_code 160 = .ok (.getfield 52, 3) := by decide +kernel
theorem d_Mo_opened_163 : decode prog_12_method_28_code 163 = .ok (.iload_n 3, 1) := by decide +kernel
theorem d_Mo_opened_164 : decode prog_12_method_28_code 164 = .ok (.iconst 5, 1) := by decide +kernel
theorem d_Mo_opened_165 : decode prog_12_method_28_code 165 = .ok (.iadd, 1) := by decide +kernel
theorem d_Mo_opened_166 : decode prog_12_method_28_code 166 = .ok (.iaload, 1) := by decide +kernel
theorem d_Mo_opened_167 : decode prog_12_method_28_code 167 = .ok (.iastore, 1) := by decide +kernel
theorem d_Mo_opened_168 : decode prog_12_method_28_code 168 = .ok (.aload_n 0, 1) := by decide +kernel
theorem d_Mo_opened_169 : decode prog_12_method_28_code 169 = .ok (.getfield 16, 3) := by decide +kernel
theorem d_Mo_opened_172 : decode prog_12_method_28_code 172 = .ok (.iload_n 1, 1) := by decide +kernel
theorem d_Mo_opened_173 : decode prog_12_method_28_code 173 = .ok (.iconst 2, 1) := by decide +kernel
theorem d_Mo_opened_174 : decode prog_12_method_28_code 174 = .ok (.iastore, 1) := by decide +kernel
theorem d_Mo_opened_175 : decode prog_12_method_28_code 175 = .ok (.aload_n 0, 1) := by decide +kernel
theorem d_Mo_opened_176 : decode prog_12_method_28_code 176 = .ok (.getfield 19, 3) := by decide +kernel
theorem d_Mo_opened_179 : decode prog_12_method_28_code 179 = .ok (.iload_n 1, 1) := by decide +kernel
theorem d_Mo_opened_180 : decode prog_12_method_28_code 180 = .ok (.aload_n 0, 1) := by decide +kernel
theorem d_Mo_opened_181 : decode prog_12_method_28_code 181 = .ok (.getfield 25, 3) := by decide +kernel
theorem d_Mo_opened_184 : decode prog_12_method_28_code 184 = .ok (.iload_n 1, 1) := by decide +kernel
theorem d_Mo_opened_185 : decode prog_12_method_28_code 185 = .ok (.iaload, 1) := by decide +kernel
theorem d_Mo_opened_186 : decode prog_12_method_28_code 186 = .ok (.iastore, 1) := by decide +kernel
theorem d_Mo_opened_187 : decode prog_12_method_28_code 187 = .ok (.aload_n 0, 1) := by decide +kernel
theorem d_Mo_opened_188 : decode prog_12_method_28_code 188 = .ok (.iload_n 1, 1) := by decide +kernel
theorem d_Mo_opened_189 : decode prog_12_method_28_code 189 = .ok (.invokevirtual 196, 3) := by decide +kernel
theorem d_Mo_opened_192 : decode prog_12_method_28_code 192 = .ok (.return_, 1) := by decide +kernel
def B_Mo_opened_101 (N : Nat → Nat) (Q : rs_Mem → Prop) (v0 : Nat) (x1 : Int32) (σ : rs_Mem) : Prop :=
  (F_Mo_end N v0 x1 (2 : Int32) (3 : Int32) σ (fun σ51 => (Q σ51)))
def B_Mo_opened_123 (N : Nat → Nat) (Q : rs_Mem → Prop) (v0 : Nat) (x1 : Int32) (σ : rs_Mem) : Prop :=
  (F_Mo_end N v0 x1 (2 : Int32) (6 : Int32) σ (fun σ51 => (Q σ51)))
def B_Mo_opened_153 (N : Nat → Nat) (Q : rs_Mem → Prop) (v0 : Nat) (x1 : Int32) (x3 : Int32) (w0 : Nat) (y1 : Int32) (y2 : Int32) (σ : rs_Mem) : Prop :=
  (vp_in y1 (N w0) ∧ ∀ σ52 : rs_Mem, σ52 = rs_sI σ w0 y1.toNatClampNeg y2 → (vp_in (x3 + (5 : Int32)) (N (rs_R σ52 v0 15)) ∧ (vp_in x1 (N (rs_R σ52 v0 7)) ∧ ∀ σ57 : rs_Mem, σ57 = rs_sI σ52 (rs_R σ52 v0 7) x1.toNatClampNeg (rs_I σ52 (rs_R σ52 v0 15) (x3 + (5 : Int32)).toNatClampNeg) → (vp_in x1 (N (rs_R σ57 v0 3)) ∧ ∀ σ60 : rs_Mem, σ60 = rs_sI σ57 (rs_R σ57 v0 3) x1.toNatClampNeg (2 : Int32) → (vp_in x1 (N (rs_R σ60 v0 6)) ∧ (vp_in x1 (N (rs_R σ60 v0 4)) ∧ ∀ σ65 : rs_Mem, σ65 = rs_sI σ60 (rs_R σ60 v0 4) x1.toNatClampNeg (rs_I σ60 (rs_R σ60 v0 6) x1.toNatClampNeg) → (F_Mo_keepAlive N v0 x1 σ65 (fun σ66 => (Q σ66)))))))))
def F_Mo_opened (N : Nat → Nat) (v0 : Nat) (x1 : Int32) (x2 : Int32) (x3 : Int32) (σ : rs_Mem) (Q : rs_Mem → Prop) : Prop :=
  (vp_in (x3 + (4 : Int32)) (N (rs_R σ v0 15)) ∧ (∀ x53 : Int32, x53 = (rs_I σ (rs_R σ v0 15) (x3 + (4 : Int32)).toNatClampNeg) → ((x2 = (1 : Int32) → (vp_in (x3 + (2 : Int32)) (N (rs_R σ v0 15)) ∧ (((rs_I σ (rs_R σ v0 15) (x3 + (2 : Int32)).toNatClampNeg) = (4 : Int32) → (vp_in (x3 + (3 : Int32)) (N (rs_R σ v0 15)) ∧ (vp_in x1 (N (rs_R σ v0 2)) ∧ (((rs_I σ (rs_R σ v0 15) (x3 + (3 : Int32)).toNatClampNeg) = (rs_I σ (rs_R σ v0 2) x1.toNatClampNeg) → (vp_in (x3 + (5 : Int32)) (N (rs_R σ v0 15)) ∧ (F_Mo_isNumber N (rs_I σ (rs_R σ v0 15) (x3 + (5 : Int32)).toNatClampNeg) σ (fun x63 σ62 => ((x63 = 0 → (B_Mo_opened_101 N Q v0 x1 σ62)) ∧ (¬ (x63 = 0) → (vp_in (x3 + (5 : Int32)) (N (rs_R σ62 v0 15)) ∧ ((¬ ((rs_I σ62 (rs_R σ62 v0 15) (x3 + (5 : Int32)).toNatClampNeg) = (7 : Int32)) → ((x53 = (1 : Int32) → (B_Mo_opened_123 N Q v0 x1 σ62)) ∧ (¬ (x53 = (1 : Int32)) → ((¬ (x53 = (2 : Int32)) → (((9 : Int32) ≤ x53 → (B_Mo_opened_153 N Q v0 x1 x3 (rs_R σ62 v0 6) x1 (9 : Int32) σ62)) ∧ (¬ ((9 : Int32) ≤ x53) → (B_Mo_opened_153 N Q v0 x1 x3 (rs_R σ62 v0 6) x1 x53 σ62)))) ∧ (x53 = (2 : Int32) → (B_Mo_opened_123 N Q v0 x1 σ62)))))) ∧ ((rs_I σ62 (rs_R σ62 v0 15) (x3 + (5 : Int32)).toNatClampNeg) = (7 : Int32) → (B_Mo_opened_101 N Q v0 x1 σ62)))))))))) ∧ (¬ ((rs_I σ (rs_R σ v0 15) (x3 + (3 : Int32)).toNatClampNeg) = (rs_I σ (rs_R σ v0 2) x1.toNatClampNeg)) → (F_Mo_end N v0 x1 (2 : Int32) (2 : Int32) σ (fun σ60 => (Q σ60)))))))) ∧ (¬ ((rs_I σ (rs_R σ v0 15) (x3 + (2 : Int32)).toNatClampNeg) = (4 : Int32)) → (F_Mo_end N v0 x1 (2 : Int32) (1 : Int32) σ (fun σ56 => (Q σ56))))))) ∧ (¬ (x2 = (1 : Int32)) → (F_Mo_end N v0 x1 (5 : Int32) (1 : Int32) σ (fun σ54 => (Q σ54)))))))
set_option maxRecDepth 20000 in
theorem JB_Mo_opened_101 {p : Program} {l : Launch} {e : Env} {s : State} {m : MethodId} {args : Array Value} {below : List Frame} {meth : Method} {c : Code} {G : rs_G} {Bm : Nat} {S : rs_Shp} {Q : rs_Mem → Prop} (C : rs_C "RouteSpeakerModel" prog_12_method_28_code 5 none G p s m meth c args) (v0 : Nat) (x1 : Int32) (σ : rs_Mem) (H : Heap) (locs : List Loc) (ls : Array Slot) (h_v0 : rs_Ok S 11 v0) (hH : rs_H G Bm S σ H) (hT : rs_T S σ) (hS : va_S (rs_A Bm) s.heap H locs) (hl : lv_has ls 5 [(0, .ref (Bm + v0)), (1, .int x1)]) (hF : B_Mo_opened_101 S.2.2 Q v0 x1 σ) :
    W p l e { frames := 3, cells := 0, slots := 0, locals := 67 } s m args below meth c H locs 0 0 (MQ below (rs_Qv G Bm S Q) args s 0 0 (rs_A Bm)) (F0 m 101 ls []) := by
  have hx := C.1
  have hb := C.2.1
  unfold B_Mo_opened_101 at hF
  refine lv_aload_n hx hb d_Mo_opened_101 rfl (lv_at hl 0 rfl) ?_
  refine lv_iload_n hx hb d_Mo_opened_102 rfl (lv_at hl 1 rfl) ?_
  refine lv_iconst hx hb d_Mo_opened_103 ki_2 ?_
  refine lv_iconst hx hb d_Mo_opened_104 ki_3 ?_
  refine rs_cv (rs_runV C hH hT hl (J_Mo_end l h_v0 hF) rc_Mo_end tw_1171 tw_1173 ts_58 h_v0 ⟨rfl, by decide, by decide⟩ rfl ⟨⟨rfl, rfl⟩, by decide, by decide, by decide⟩ (Nat.le_of_ble_eq_true rfl) rfl d_Mo_opened_105) hS (fun σ51 H locs hH hT hS hF => ?_)
  refine lv_goto hx hb d_Mo_opened_108 (tgt := 192) rfl ?_
  exact rs_vret C hH hT hS hF d_Mo_opened_192
set_option maxRecDepth 20000 in
theorem JB_Mo_opened_123 {p : Program} {l : Launch} {e : Env} {s : State} {m : MethodId} {args : Array Value} {below : List Frame} {meth : Method} {c : Code} {G : rs_G} {Bm : Nat} {S : rs_Shp} {Q : rs_Mem → Prop} (C : rs_C "RouteSpeakerModel" prog_12_method_28_code 5 none G p s m meth c args) (v0 : Nat) (x1 : Int32) (σ : rs_Mem) (H : Heap) (locs : List Loc) (ls : Array Slot) (h_v0 : rs_Ok S 11 v0) (hH : rs_H G Bm S σ H) (hT : rs_T S σ) (hS : va_S (rs_A Bm) s.heap H locs) (hl : lv_has ls 5 [(0, .ref (Bm + v0)), (1, .int x1)]) (hF : B_Mo_opened_123 S.2.2 Q v0 x1 σ) :
    W p l e { frames := 3, cells := 0, slots := 0, locals := 67 } s m args below meth c H locs 0 0 (MQ below (rs_Qv G Bm S Q) args s 0 0 (rs_A Bm)) (F0 m 123 ls []) := by
  have hx := C.1
  have hb := C.2.1
  unfold B_Mo_opened_123 at hF
  refine lv_aload_n hx hb d_Mo_opened_123 rfl (lv_at hl 0 rfl) ?_
  refine lv_iload_n hx hb d_Mo_opened_124 rfl (lv_at hl 1 rfl) ?_
  refine lv_iconst hx hb d_Mo_opened_125 ki_2 ?_
  refine lv_bipush hx hb d_Mo_opened_126 kb_6 ?_
  refine rs_cv (rs_runV C hH hT hl (J_Mo_end l h_v0 hF) rc_Mo_end tw_1171 tw_1173 ts_58 h_v0 ⟨rfl, by decide, by decide⟩ rfl ⟨⟨rfl, rfl⟩, by decide, by decide, by decide⟩ (Nat.le_of_ble_eq_true rfl) rfl d_Mo_opened_128) hS (fun σ51 H locs hH hT hS hF => ?_)
  refine lv_goto hx hb d_Mo_opened_131 (tgt := 192) rfl ?_
  exact rs_vret C hH hT hS hF d_Mo_opened_192
set_option maxRecDepth 20000 in
theorem JB_Mo_opened_153 {p : Program} {l : Launch} {e : Env} {s : State} {m : MethodId} {args : Array Value} {below : List Frame} {meth : Method} {c : Code} {G : rs_G} {Bm : Nat} {S : rs_Shp} {Q : rs_Mem → Prop} (C : rs_C "RouteSpeakerModel" prog_12_method_28_code 5 none G p s m meth c args) (v0 : Nat) (x1 : Int32) (x3 : Int32) (w0 : Nat) (y1 : Int32) (y2 : Int32) (σ : rs_Mem) (H : Heap) (locs : List Loc) (ls : Array Slot) (h_v0 : rs_Ok S 11 v0) (h_w0 : rs_Ok S 20 w0) (hH : rs_H G Bm S σ H) (hT : rs_T S σ) (hS : va_S (rs_A Bm) s.heap H locs) (hl : lv_has ls 5 [(0, .ref (Bm + v0)), (1, .int x1), (3, .int x3)]) (hF : B_Mo_opened_153 S.2.2 Q v0 x1 x3 w0 y1 y2 σ) :
    W p l e { frames := 3, cells := 0, slots := 0, locals := 67 } s m args below meth c H locs 0 0 (MQ below (rs_Qv G Bm S Q) args s 0 0 (rs_A Bm)) (F0 m 153 ls [.int y2, .int y1, .ref (Bm + w0)]) := by
  have hx := C.1
  have hb := C.2.1
  unfold B_Mo_opened_153 at hF
  obtain ⟨g51, hF⟩ := hF
  refine rs_iast C hH hT hS h_w0 g51 d_Mo_opened_153 (fun σ52 H locs eσ52 hH hT hS => ?_)
  replace hF := hF σ52 eσ52
  refine lv_aload_n hx hb d_Mo_opened_154 rfl (lv_at hl 0 rfl) ?_
  refine rs_getR C hH hT h_v0 fk_11_7 tw_906 d_Mo_opened_155 (fun h53 => ?_)
  refine lv_iload_n hx hb d_Mo_opened_158 rfl (lv_at hl 1 rfl) ?_
  refine lv_aload_n hx hb d_Mo_opened_159 rfl (lv_at hl 0 rfl) ?_
  refine rs_getR C hH hT h_v0 fk_11_15 tw_914 d_Mo_opened_160 (fun h54 => ?_)
  refine lv_iload_n hx hb d_Mo_opened_163 rfl (lv_at hl 2 rfl) ?_
  refine lv_iconst hx hb d_Mo_opened_164 ki_5 ?_
  refine lv_iadd hx hb d_Mo_opened_165 ?_
  obtain ⟨g55, hF⟩ := hF
  refine rs_iald C hH h54 g55 d_Mo_opened_166 ?_
  obtain ⟨g56, hF⟩ := hF
  refine rs_iast C hH hT hS h53 g56 d_Mo_opened_167 (fun σ57 H locs eσ57 hH hT hS => ?_)
  replace hF := hF σ57 eσ57
  refine lv_aload_n hx hb d_Mo_opened_168 rfl (lv_at hl 0 rfl) ?_
  refine rs_getR C hH hT h_v0 fk_11_3 tw_902 d_Mo_opened_169 (fun h58 => ?_)
  refine lv_iload_n hx hb d_Mo_opened_172 rfl (lv_at hl 1 rfl) ?_
  refine lv_iconst hx hb d_Mo_opened_173 ki_2 ?_
  obtain ⟨g59, hF⟩ := hF
  refine rs_iast C hH hT hS h58 g59 d_Mo_opened_174 (fun σ60 H locs eσ60 hH hT hS => ?_)
  replace hF := hF σ60 eσ60
  refine lv_aload_n hx hb d_Mo_opened_175 rfl (lv_at hl 0 rfl) ?_
  refine rs_getR C hH hT h_v0 fk_11_4 tw_903 d_Mo_opened_176 (fun h61 => ?_)
  refine lv_iload_n hx hb d_Mo_opened_179 rfl (lv_at hl 1 rfl) ?_
  refine lv_aload_n hx hb d_Mo_opened_180 rfl (lv_at hl 0 rfl) ?_
  refine rs_getR C hH hT h_v0 fk_11_6 tw_905 d_Mo_opened_181 (fun h62 => ?_)
  refine lv_iload_n hx hb d_Mo_opened_184 rfl (lv_at hl 1 rfl) ?_
  obtain ⟨g63, hF⟩ := hF
  refine rs_iald C hH h62 g63 d_Mo_opened_185 ?_
  obtain ⟨g64, hF⟩ := hF
  refine rs_iast C hH hT hS h61 g64 d_Mo_opened_186 (fun σ65 H locs eσ65 hH hT hS => ?_)
  replace hF := hF σ65 eσ65
  refine lv_aload_n hx hb d_Mo_opened_187 rfl (lv_at hl 0 rfl) ?_
  refine lv_iload_n hx hb d_Mo_opened_188 rfl (lv_at hl 1 rfl) ?_
  refine rs_cv (rs_runV C hH hT hl (J_Mo_keepAlive l h_v0 hF) rc_Mo_keepAlive tw_1192 tw_1194 ts_62 h_v0 ⟨rfl, by decide, by decide⟩ rfl ⟨⟨rfl, rfl⟩, by decide, by decide, by decide⟩ (Nat.le_of_ble_eq_true rfl) rfl d_Mo_opened_189) hS (fun σ66 H locs hH hT hS hF => ?_)
  exact rs_vret C hH hT hS hF d_Mo_opened_192
abbrev y_Mo_opened : MethodName := ({ cls := "RouteSpeakerModel", name := "opened", desc := "(III)V" } : Jvm.MethodName)
theorem rc_Mo_opened : rs_Cal y_Mo_opened prog_12_method_28_code 5 none 3 := ⟨tw_1191, tw_11, by decide, by decide, by decide +kernel⟩
set_option maxRecDepth 20000 in
theorem J_Mo_opened (l : Launch) {G : rs_G} {Bm : Nat} {S : rs_Shp} {v0 : Nat} {x1 : Int32} {x2 : Int32} {x3 : Int32} {σ : rs_Mem} {Q : rs_Mem → Prop} (h_v0 : rs_Ok S 11 v0) (hF : F_Mo_opened S.2.2 v0 x1 x2 x3 σ Q) :
    Met l y_Mo_opened (rs_ws y_Mo_opened prog_12_method_28_code 5 none) { frames := 3, cells := 0, slots := 0, locals := 67 } (rs_P G Bm S σ [.ref (Bm + v0), .int x1, .int x2, .int x3]) (rs_Qv G Bm S Q) 0 0 (rs_A Bm) := by
  refine rs_met (own := "RouteSpeakerModel") (by decide) rfl (Nat.le_of_ble_eq_true rfl) (fun p e s m below meth c ls C hl hH hT hS => ?_)
  replace hl : lv_has ls 5 [(0, .ref (Bm + v0)), (1, .int x1), (2, .int x2), (3, .int x3)] := hl
  have hx := C.1
  have hb := C.2.1
  unfold F_Mo_opened at hF
  refine lv_aload_n hx hb d_Mo_opened_0 rfl (lv_at hl 0 rfl) ?_
  refine rs_getR C hH hT h_v0 fk_11_15 tw_914 d_Mo_opened_1 (fun h51 => ?_)
  refine lv_iload_n hx hb d_Mo_opened_4 rfl (lv_at hl 3 rfl) ?_
  refine lv_iconst hx hb d_Mo_opened_5 ki_4 ?_
  refine lv_iadd hx hb d_Mo_opened_6 ?_
  obtain ⟨g52, hF⟩ := hF
  refine rs_iald C hH h51 g52 d_Mo_opened_7 ?_
  refine lv_topi (fun x53 ex53 => ?_)
  replace hF := hF x53 ex53
  refine lv_istore hx hb d_Mo_opened_8 hl (by decide) (lv' := [(4, .int x53), (0, .ref (Bm + v0)), (1, .int x1), (2, .int x2), (3, .int x3)]) rfl (fun ls hl => ?_)
  refine lv_iload_n hx hb d_Mo_opened_10 rfl (lv_at hl 3 rfl) ?_
  refine lv_iconst hx hb d_Mo_opened_11 ki_1 ?_
  refine lv_icmp_eq hx hb d_Mo_opened_12 (tgt := 25) rfl (fun hc => ?_) (fun hc => ?_)
  · replace hF := hF.1 hc
    refine lv_aload_n hx hb d_Mo_opened_25 rfl (lv_at hl 1 rfl) ?_
    refine rs_getR C hH hT h_v0 fk_11_15 tw_914 d_Mo_opened_26 (fun h54 => ?_)
    refine lv_iload_n hx hb d_Mo_opened_29 rfl (lv_at hl 4 rfl) ?_
    refine lv_iconst hx hb d_Mo_opened_30 ki_2 ?_
    refine lv_iadd hx hb d_Mo_opened_31 ?_
    obtain ⟨g55, hF⟩ := hF
    refine rs_iald C hH h54 g55 d_Mo_opened_32 ?_
    refine lv_iconst hx hb d_Mo_opened_33 ki_4 ?_
    refine lv_icmp_eq hx hb d_Mo_opened_34 (tgt := 47) rfl (fun hc => ?_) (fun hc => ?_)
    · replace hF := hF.1 hc
      refine lv_aload_n hx hb d_Mo_opened_47 rfl (lv_at hl 1 rfl) ?_
      refine rs_getR C hH hT h_v0 fk_11_15 tw_914 d_Mo_opened_48 (fun h56 => ?_)
      refine lv_iload_n hx hb d_Mo_opened_51 rfl (lv_at hl 4 rfl) ?_
      refine lv_iconst hx hb d_Mo_opened_52 ki_3 ?_
      refine lv_iadd hx hb d_Mo_opened_53 ?_
      obtain ⟨g57, hF⟩ := hF
      refine rs_iald C hH h56 g57 d_Mo_opened_54 ?_
      refine lv_aload_n hx hb d_Mo_opened_55 rfl (lv_at hl 1 rfl) ?_
      refine rs_getR C hH hT h_v0 fk_11_2 tw_901 d_Mo_opened_56 (fun h58 => ?_)
      refine lv_iload_n hx hb d_Mo_opened_59 rfl (lv_at hl 2 rfl) ?_
      obtain ⟨g59, hF⟩ := hF
      refine rs_iald C hH h58 g59 d_Mo_opened_60 ?_
      refine lv_icmp_eq hx hb d_Mo_opened_61 (tgt := 74) rfl (fun hc => ?_) (fun hc => ?_)
      · replace hF := hF.1 hc
        refine lv_aload_n hx hb d_Mo_opened_74 rfl (lv_at hl 1 rfl) ?_
        refine rs_getR C hH hT h_v0 fk_11_15 tw_914 d_Mo_opened_75 (fun h60 => ?_)
        refine lv_iload_n hx hb d_Mo_opened_78 rfl (lv_at hl 4 rfl) ?_
        refine lv_iconst hx hb d_Mo_opened_79 ki_5 ?_
        refine lv_iadd hx hb d_Mo_opened_80 ?_
        obtain ⟨g61, hF⟩ := hF
        refine rs_iald C hH h60 g61 d_Mo_opened_81 ?_
        refine rs_ci (rs_runS C hH hT hl (J_Mo_isNumber l hF) rc_Mo_isNumber tw_1034 tw_1035 rfl ⟨⟨rfl, rfl⟩, by decide, by decide, by decide⟩ (Nat.le_of_ble_eq_true rfl) rfl d_Mo_opened_82) hS (fun x63 σ62 H locs hH hT hS hF => ?_)
        refine lv_if_eq hx hb d_Mo_opened_85 (tgt := 101) rfl (fun hc => ?_) (fun hc => ?_)
        · replace hF := hF.1 hc
          exact JB_Mo_opened_101 C v0 x1 σ62 _ _ _ h_v0 hH hT hS (lv_sub hl [1, 2] rfl) hF
        · replace hF := hF.2 hc
          refine lv_aload_n hx hb d_Mo_opened_88 rfl (lv_at hl 1 rfl) ?_
          refine rs_getR C hH hT h_v0 fk_11_15 tw_914 d_Mo_opened_89 (fun h64 => ?_)
          refine lv_iload_n hx hb d_Mo_opened_92 rfl (lv_at hl 4 rfl) ?_
          refine lv_iconst hx hb d_Mo_opened_93 ki_5 ?_
          refine lv_iadd hx hb d_Mo_opened_94 ?_
          obtain ⟨g65, hF⟩ := hF
          refine rs_iald C hH h64 g65 d_Mo_opened_95 ?_
          refine lv_bipush hx hb d_Mo_opened_96 kb_7 ?_
          refine lv_icmp_ne hx hb d_Mo_opened_98 (tgt := 111) rfl (fun hc => ?_) (fun hc => ?_)
          · replace hF := hF.1 hc
            refine lv_iload hx hb d_Mo_opened_111 (lv_at hl 0 rfl) ?_
            refine lv_iconst hx hb d_Mo_opened_113 ki_1 ?_
            refine lv_icmp_eq hx hb d_Mo_opened_114 (tgt := 123) rfl (fun hc => ?_) (fun hc => ?_)
            · replace hF := hF.1 hc
              exact JB_Mo_opened_123 C v0 x1 σ62 _ _ _ h_v0 hH hT hS (lv_sub hl [1, 2] rfl) hF
            · replace hF := hF.2 hc
              refine lv_iload hx hb d_Mo_opened_117 (lv_at hl 0 rfl) ?_
              refine lv_iconst hx hb d_Mo_opened_119 ki_2 ?_
              refine lv_icmp_ne hx hb d_Mo_opened_120 (tgt := 134) rfl (fun hc => ?_) (fun hc => ?_)
              · replace hF := hF.1 hc
                refine lv_aload_n hx hb d_Mo_opened_134 rfl (lv_at hl 1 rfl) ?_
                refine rs_getR C hH hT h_v0 fk_11_6 tw_905 d_Mo_opened_135 (fun h66 => ?_)
                refine lv_iload_n hx hb d_Mo_opened_138 rfl (lv_at hl 2 rfl) ?_
                refine lv_iload hx hb d_Mo_opened_139 (lv_at hl 0 rfl) ?_
                refine lv_bipush hx hb d_Mo_opened_141 kb_9 ?_
                refine lv_icmp_ge hx hb d_Mo_opened_143 (tgt := 151) rfl (fun hc => ?_) (fun hc => ?_)
                · replace hF := hF.1 hc
                  refine lv_bipush hx hb d_Mo_opened_151 kb_9 ?_
                  exact JB_Mo_opened_153 C v0 x1 x3 (rs_R σ62 v0 6) x1 (9 : Int32) σ62 _ _ _ h_v0 h66 hH hT hS (lv_sub hl [1, 2, 4] rfl) hF
                · replace hF := hF.2 hc
                  refine lv_iload hx hb d_Mo_opened_146 (lv_at hl 0 rfl) ?_
                  refine lv_goto hx hb d_Mo_opened_148 (tgt := 153) rfl ?_
                  exact JB_Mo_opened_153 C v0 x1 x3 (rs_R σ62 v0 6) x1 x53 σ62 _ _ _ h_v0 h66 hH hT hS (lv_sub hl [1, 2, 4] rfl) hF
              · replace hF := hF.2 hc
                exact JB_Mo_opened_123 C v0 x1 σ62 _ _ _ h_v0 hH hT hS (lv_sub hl [1, 2] rfl) hF
          · replace hF := hF.2 hc
            exact JB_Mo_opened_101 C v0 x1 σ62 _ _ _ h_v0 hH hT hS (lv_sub hl [1, 2] rfl) hF
      · replace hF := hF.2 hc
        refine lv_aload_n hx hb d_Mo_opened_64 rfl (lv_at hl 1 rfl) ?_
        refine lv_iload_n hx hb d_Mo_opened_65 rfl (lv_at hl 2 rfl) ?_
        refine lv_iconst hx hb d_Mo_opened_66 ki_2 ?_
        refine lv_iconst hx hb d_Mo_opened_67 ki_2 ?_
        refine rs_cv (rs_runV C hH hT hl (J_Mo_end l h_v0 hF) rc_Mo_end tw_1171 tw_1173 ts_58 h_v0 ⟨rfl, by decide, by decide⟩ rfl ⟨⟨rfl, rfl⟩, by decide, by decide, by decide⟩ (Nat.le_of_ble_eq_true rfl) rfl d_Mo_opened_68) hS (fun σ60 H locs hH hT hS hF => ?_)
        refine lv_goto hx hb d_Mo_opened_71 (tgt := 192) rfl ?_
        exact rs_vret C hH hT hS hF d_Mo_opened_192
    · replace hF := hF.2 hc
      refine lv_aload_n hx hb d_Mo_opened_37 rfl (lv_at hl 1 rfl) ?_
      refine lv_iload_n hx hb d_Mo_opened_38 rfl (lv_at hl 2 rfl) ?_
      refine lv_iconst hx hb d_Mo_opened_39 ki_2 ?_
      refine lv_iconst hx hb d_Mo_opened_40 ki_1 ?_
      refine rs_cv (rs_runV C hH hT hl (J_Mo_end l h_v0 hF) rc_Mo_end tw_1171 tw_1173 ts_58 h_v0 ⟨rfl, by decide, by decide⟩ rfl ⟨⟨rfl, rfl⟩, by decide, by decide, by decide⟩ (Nat.le_of_ble_eq_true rfl) rfl d_Mo_opened_41) hS (fun σ56 H locs hH hT hS hF => ?_)
      refine lv_goto hx hb d_Mo_opened_44 (tgt := 192) rfl ?_
      exact rs_vret C hH hT hS hF d_Mo_opened_192
  · replace hF := hF.2 hc
    refine lv_aload_n hx hb d_Mo_opened_15 rfl (lv_at hl 1 rfl) ?_
    refine lv_iload_n hx hb d_Mo_opened_16 rfl (lv_at hl 2 rfl) ?_
    refine lv_iconst hx hb d_Mo_opened_17 ki_5 ?_
    refine lv_iconst hx hb d_Mo_opened_18 ki_1 ?_
    refine rs_cv (rs_runV C hH hT hl (J_Mo_end l h_v0 hF) rc_Mo_end tw_1171 tw_1173 ts_58 h_v0 ⟨rfl, by decide, by decide⟩ rfl ⟨⟨rfl, rfl⟩, by decide, by decide, by decide⟩ (Nat.le_of_ble_eq_true rfl) rfl d_Mo_opened_19) hS (fun σ54 H locs hH hT hS hF => ?_)
    refine lv_goto hx hb d_Mo_opened_22 (tgt := 192) rfl ?_
    exact rs_vret C hH hT hS hF d_Mo_opened_192
/-! RouteSpeakerModel.agreed(II)V -/
theorem d_Mo_agreed_0 : decode prog_12_method_29_code 0 = .ok (.iload_n 2, 1) := by decide +kernel
theorem d_Mo_agreed_1 : decode prog_12_method_29_code 1 = .ok (.iconst 4, 1) := by decide +kernel
theorem d_Mo_agreed_2 : decode prog_12_method_29_code 2 = .ok (.if_icmp .eq (11), 3) := by decide +kernel
theorem d_Mo_agreed_5 : decode prog_12_method_29_code 5 = .ok (.aload_n 0, 1) := by decide +kernel
theorem d_Mo_agreed_6 : decode prog_12_method_29_code 6 = .ok (.iload_n 1, 1) := by decide +kernel
theorem d_Mo_agreed_7 : decode prog_12_method_29_code 7 = .ok (.iconst 5, 1) := by decide +kernel
theorem d_Mo_agreed_8 : decode prog_12_method_29_code 8 = .ok (.iconst 2, 1) := by decide +kernel
theorem d_Mo_agreed_9 : decode prog_12_method_29_code 9 = .ok (.invokevirtual 174, 3) := by decide +kernel
theorem d_Mo_agreed_12 : decode prog_12_method_29_code 12 = .ok (.return_, 1) := by decide +kernel
theorem d_Mo_agreed_13 : decode prog_12_method_29_code 13 = .ok (.aload_n 0, 1) := by decide +kernel
theorem d_Mo_agreed_14 : decode prog_12_method_29_code 14 = .ok (.getfield 16, 3) := by decide +kernel
theorem d_Mo_agreed_17 : decode prog_12_method_29_code 17 = .ok (.iload_n 1, 1) := by decide +kernel
theorem d_Mo_agreed_18 : decode prog_12_method_29_code 18 = .ok (.iconst 3, 1) := by decide +kernel
theorem d_Mo_agreed_19 : decode prog_12_method_29_code 19 = .ok (.iastore, 1) := by decide +kernel
theorem d_Mo_agreed_20 : decode prog_12_method_29_code 20 = .ok (.aload_n 0, 1) := by decide +kernel
theorem d_Mo_agreed_21 : decode prog_12_method_29_code 21 = .ok (.getfield 19, 3) := by decide +kernel
theorem d_Mo_agreed_24 : decode prog_12_method_29_code 24 = .ok (.iload_n 1, 1) := by decide +kernel
theorem d_Mo_agreed_25 : decode prog_12_method_29_code 25 = .ok (.aload_n 0, 1) := by decide +kernel
theorem d_Mo_agreed_26 : decode prog_12_method_29_code 26 = .ok (.getfield 25, 3) := by decide +kernel
theorem d_Mo_agreed_29 : decode prog_12_method_29_code 29 = .ok (.iload_n 1, 1) := by decide +kernel
theorem d_Mo_agreed_30 : decode prog_12_method_29_code 30 = .ok (.iaload, 1) := by decide +kernel
theorem d_Mo_agreed_31 : decode prog_12_method_29_code 31 = .ok (.iastore, 1) := by decide +kernel
theorem d_Mo_agreed_32 : decode prog_12_method_29_code 32 = .ok (.aload_n 0, 1) := by decide +kernel
theorem d_Mo_agreed_33 : decode prog_12_method_29_code 33 = .ok (.getfield 22, 3) := by decide +kernel
theorem d_Mo_agreed_36 : decode prog_12_method_29_code 36 = .ok (.iload_n 1, 1) := by decide +kernel
theorem d_Mo_agreed_37 : decode prog_12_method_29_code 37 = .ok (.aload_n 0, 1) := by decide +kernel
theorem d_Mo_agreed_38 : decode prog_12_method_29_code 38 = .ok (.getfield 25, 3) := by decide +kernel
theorem d_Mo_agreed_41 : decode prog_12_method_29_code 41 = .ok (.iload_n 1, 1) := by decide +kernel
theorem d_Mo_agreed_42 : decode prog_12_method_29_code 42 = .ok (.iaload, 1) := by decide +kernel
theorem d_Mo_agreed_43 : decode prog_12_method_29_code 43 = .ok (.iconst 3, 1) := by decide +kernel
theorem d_Mo_agreed_44 : decode prog_12_method_29_code 44 = .ok (.idiv, 1) := by decide +kernel
theorem d_Mo_agreed_45 : decode prog_12_method_29_code 45 = .ok (.iastore, 1) := by decide +kernel
theorem d_Mo_agreed_46 : decode prog_12_method_29_code 46 = .ok (.return_, 1) := by decide +kernel
def F_Mo_agreed (N : Nat → Nat) (v0 : Nat) (x1 : Int32) (x2 : Int32) (σ : rs_Mem) (Q : rs_Mem → Prop) : Prop :=
  ((x2 = (4 : Int32) → (vp_in x1 (N (rs_R σ v0 3)) ∧ ∀ σ53 : rs_Mem, σ53 = rs_sI σ (rs_R σ v0 3) x1.toNatClampNeg (3 : Int32) → (vp_in x1 (N (rs_R σ53 v0 6)) ∧ (vp_in x1 (N (rs_R σ53 v0 4)) ∧ ∀ σ58 : rs_Mem, σ58 = rs_sI σ53 (rs_R σ53 v0 4) x1.toNatClampNeg (rs_I σ53 (rs_R σ53 v0 6) x1.toNatClampNeg) → (vp_in x1 (N (rs_R σ58 v0 6)) ∧ (vp_in x1 (N (rs_R σ58 v0 5)) ∧ ∀ σ63 : rs_Mem, σ63 = rs_sI σ58 (rs_R σ58 v0 5) x1.toNatClampNeg ((rs_I σ58 (rs_R σ58 v0 6) x1.toNatClampNeg) / (3 : Int32)) → (Q σ63))))))) ∧ (¬ (x2 = (4 : Int32)) → (F_Mo_end N v0 x1 (5 : Int32) (2 : Int32) σ (fun σ51 => (Q σ51)))))
abbrev y_Mo_agreed : MethodName := ({ cls := "RouteSpeakerModel", name := "agreed", desc := "(II)V" } : Jvm.MethodName)
theorem rc_Mo_agreed : rs_Cal y_Mo_agreed prog_12_method_29_code 3 none 2 := ⟨tw_1199, tw_11, by decide, by decide, by decide +kernel⟩
set_option maxRecDepth 20000 in
theorem J_Mo_agreed (l : Launch) {G : rs_G} {Bm : Nat} {S : rs_Shp} {v0 : Nat} {x1 : Int32} {x2 : Int32} {σ : rs_Mem} {Q : rs_Mem → Prop} (h_v0 : rs_Ok S 11 v0) (hF : F_Mo_agreed S.2.2 v0 x1 x2 σ Q) :
    Met l y_Mo_agreed (rs_ws y_Mo_agreed prog_12_method_29_code 3 none) { frames := 3, cells := 0, slots := 0, locals := 67 } (rs_P G Bm S σ [.ref (Bm + v0), .int x1, .int x2]) (rs_Qv G Bm S Q) 0 0 (rs_A Bm) := by
  refine rs_met (own := "RouteSpeakerModel") (by decide) rfl (Nat.le_of_ble_eq_true rfl) (fun p e s m below meth c ls C hl hH hT hS => ?_)
  replace hl : lv_has ls 3 [(0, .ref (Bm + v0)), (1, .int x1), (2, .int x2)] := hl
  have hx := C.1
  have hb := C.2.1
  unfold F_Mo_agreed at hF
  refine lv_iload_n hx hb d_Mo_agreed_0 rfl (lv_at hl 2 rfl) ?_
  refine lv_iconst hx hb d_Mo_agreed_1 ki_4 ?_
  refine lv_icmp_eq hx hb d_Mo_agreed_2 (tgt := 13) rfl (fun hc => ?_) (fun hc => ?_)
  · replace hF := hF.1 hc
    refine lv_aload_n hx hb d_Mo_agreed_13 rfl (lv_at hl 0 rfl) ?_
    refine rs_getR C hH hT h_v0 fk_11_3 tw_902 d_Mo_agreed_14 (fun h51 => ?_)
    refine lv_iload_n hx hb d_Mo_agreed_17 rfl (lv_at hl 1 rfl) ?_
    refine lv_iconst hx hb d_Mo_agreed_18 ki_3 ?_
    obtain ⟨g52, hF⟩ := hF
    refine rs_iast C hH hT hS h51 g52 d_Mo_agreed_19 (fun σ53 H locs eσ53 hH hT hS => ?_)
    replace hF := hF σ53 eσ53
    refine lv_aload_n hx hb d_Mo_agreed_20 rfl (lv_at hl 0 rfl) ?_
    refine rs_getR C hH hT h_v0 fk_11_4 tw_903 d_Mo_agreed_21 (fun h54 => ?_)
    refine lv_iload_n hx hb d_Mo_agreed_24 rfl (lv_at hl 1 rfl) ?_
    refine lv_aload_n hx hb d_Mo_agreed_25 rfl (lv_at hl 0 rfl) ?_
    refine rs_getR C hH hT h_v0 fk_11_6 tw_905 d_Mo_agreed_26 (fun h55 => ?_)
    refine lv_iload_n hx hb d_Mo_agreed_29 rfl (lv_at hl 1 rfl) ?_
    obtain ⟨g56, hF⟩ := hF
    refine rs_iald C hH h55 g56 d_Mo_agreed_30 ?_
    obtain ⟨g57, hF⟩ := hF
    refine rs_iast C hH hT hS h54 g57 d_Mo_agreed_31 (fun σ58 H locs eσ58 hH hT hS => ?_)
    replace hF := hF σ58 eσ58
    refine lv_aload_n hx hb d_Mo_agreed_32 rfl (lv_at hl 0 rfl) ?_
    refine rs_getR C hH hT h_v0 fk_11_5 tw_904 d_Mo_agreed_33 (fun h59 => ?_)
    refine lv_iload_n hx hb d_Mo_agreed_36 rfl (lv_at hl 1 rfl) ?_
    refine lv_aload_n hx hb d_Mo_agreed_37 rfl (lv_at hl 0 rfl) ?_
    refine rs_getR C hH hT h_v0 fk_11_6 tw_905 d_Mo_agreed_38 (fun h60 => ?_)
    refine lv_iload_n hx hb d_Mo_agreed_41 rfl (lv_at hl 1 rfl) ?_
    obtain ⟨g61, hF⟩ := hF
    refine rs_iald C hH h60 g61 d_Mo_agreed_42 ?_
    refine lv_iconst hx hb d_Mo_agreed_43 ki_3 ?_
    refine lv_idiv hx hb d_Mo_agreed_44 (by decide) ?_
    obtain ⟨g62, hF⟩ := hF
    refine rs_iast C hH hT hS h59 g62 d_Mo_agreed_45 (fun σ63 H locs eσ63 hH hT hS => ?_)
    replace hF := hF σ63 eσ63
    exact rs_vret C hH hT hS hF d_Mo_agreed_46
  · replace hF := hF.2 hc
    refine lv_aload_n hx hb d_Mo_agreed_5 rfl (lv_at hl 0 rfl) ?_
    refine lv_iload_n hx hb d_Mo_agreed_6 rfl (lv_at hl 1 rfl) ?_
    refine lv_iconst hx hb d_Mo_agreed_7 ki_5 ?_
    refine lv_iconst hx hb d_Mo_agreed_8 ki_2 ?_
    refine rs_cv (rs_runV C hH hT hl (J_Mo_end l h_v0 hF) rc_Mo_end tw_1171 tw_1173 ts_58 h_v0 ⟨rfl, by decide, by decide⟩ rfl ⟨⟨rfl, rfl⟩, by decide, by decide, by decide⟩ (Nat.le_of_ble_eq_true rfl) rfl d_Mo_agreed_9) hS (fun σ51 H locs hH hT hS hF => ?_)
    exact rs_vret C hH hT hS hF d_Mo_agreed_12
/-! RouteSpeakerModel.isName(I)Z -/
theorem d_Mo_isName_0 : decode prog_12_method_34_code 0 = .ok (.iload_n 0, 1) := by decide +kernel
theorem d_Mo_isName_1 : decode prog_12_method_34_code 1 = .ok (.iconst 1, 1) := by decide +kernel
theorem d_Mo_isName_2 : decode prog_12_method_34_code 2 = .ok (.if_icmp .lt (8), 3) := by decide +kernel
theorem d_Mo_isName_5 : decode prog_12_method_34_code 5 = .ok (.iload_n 0, 1) := by decide +kernel
theorem d_Mo_isName_6 : decode prog_12_method_34_code 6 = .ok (.iconst 5, 1) := by decide +kernel
theorem d_Mo_isName_7 : decode prog_12_method_34_code 7 = .ok (.if_icmp .le (15), 3) := by decide +kernel
theorem d_Mo_isName_10 : decode prog_12_method_34_code 10 = .ok (.iload_n 0, 1) := by decide +kernel
theorem d_Mo_isName_11 : decode prog_12_method_34_code 11 = .ok (.bipush (9), 2) := by decide +kernel
theorem d_Mo_isName_13 : decode prog_12_method_34_code 13 = .ok (.if_icmp .eq (9), 3) := by decide +kernel
theorem d_Mo_isName_16 : decode prog_12_method_34_code 16 = .ok (.iload_n 0, 1) := by decide +kernel
theorem d_Mo_isName_17 : decode prog_12_method_34_code 17 = .ok (.bipush (10), 2) := by decide +kernel
theorem d_Mo_isName_19 : decode prog_12_method_34_code 19 = .ok (.if_icmp .ne (7), 3) := by decide +kernel
theorem d_Mo_isName_22 : decode prog_12_method_34_code 22 = .ok (.iconst 1, 1) := by decide +kernel
theorem d_Mo_isName_23 : decode prog_12_method_34_code 23 = .ok (.goto (4), 3) := by decide +kernel
theorem d_Mo_isName_26 : decode prog_12_method_34_code 26 = .ok (.iconst 0, 1) := by decide +kernel
theorem d_Mo_isName_27 : decode prog_12_method_34_code 27 = .ok (.ireturn, 1) := by decide +kernel
def B_Mo_isName_10 (N : Nat → Nat) (Q : Int32 → rs_Mem → Prop) (x0 : Int32) (σ : rs_Mem) : Prop :=
  ((x0 = (9 : Int32) → (Q (1 : Int32) σ)) ∧ (¬ (x0 = (9 : Int32)) → ((¬ (x0 = (10 : Int32)) → (Q (0 : Int32) σ)) ∧ (x0 = (10 : Int32) → (Q (1 : Int32) σ)))))
def F_Mo_isName (N : Nat → Nat) (x0 : Int32) (σ : rs_Mem) (Q : Int32 → rs_Mem → Prop) : Prop :=
  ((x0 < (1 : Int32) → (B_Mo_isName_10 N Q x0 σ)) ∧ (¬ (x0 < (1 : Int32)) → ((x0 ≤ (5 : Int32) → (Q (1 : Int32) σ)) ∧ (¬ (x0 ≤ (5 : Int32)) → (B_Mo_isName_10 N Q x0 σ)))))
set_option maxRecDepth 20000 in
theorem JB_Mo_isName_10 {p : Program} {l : Launch} {e : Env} {s : State} {m : MethodId} {args : Array Value} {below : List Frame} {meth : Method} {c : Code} {G : rs_G} {Bm : Nat} {S : rs_Shp} {Q : Int32 → rs_Mem → Prop} (C : rs_C "RouteSpeakerModel" prog_12_method_34_code 1 (some .boolean) G p s m meth c args) (x0 : Int32) (σ : rs_Mem) (H : Heap) (locs : List Loc) (ls : Array Slot) (hH : rs_H G Bm S σ H) (hT : rs_T S σ) (hS : va_S (rs_A Bm) s.heap H locs) (hl : lv_has ls 1 [(0, .int x0)]) (hF : B_Mo_isName_10 S.2.2 Q x0 σ) :
    W p l e { frames := 0, cells := 0, slots := 0, locals := 0 } s m args below meth c H locs 0 0 (MQ below (rs_Qi G Bm S Q) args s 0 0 (rs_A Bm)) (F0 m 10 ls []) := by
  have hx := C.1
  have hb := C.2.1
  unfold B_Mo_isName_10 at hF
  refine lv_iload_n hx hb d_Mo_isName_10 rfl (lv_at hl 0 rfl) ?_
  refine lv_bipush hx hb d_Mo_isName_11 kb_9 ?_
  refine lv_icmp_eq hx hb d_Mo_isName_13 (tgt := 22) rfl (fun hc => ?_) (fun hc => ?_)
  · replace hF := hF.1 hc
    refine lv_iconst hx hb d_Mo_isName_22 ki_1 ?_
    refine lv_goto hx hb d_Mo_isName_23 (tgt := 27) rfl ?_
    exact rs_zret C hH hT hS (by decide) hF d_Mo_isName_27
  · replace hF := hF.2 hc
    refine lv_iload_n hx hb d_Mo_isName_16 rfl (lv_at hl 0 rfl) ?_
    refine lv_bipush hx hb d_Mo_isName_17 kb_10 ?_
    refine lv_icmp_ne hx hb d_Mo_isName_19 (tgt := 26) rfl (fun hc => ?_) (fun hc => ?_)
    · replace hF := hF.1 hc
      refine lv_iconst hx hb d_Mo_isName_26 ki_0 ?_
      exact rs_zret C hH hT hS (by decide) hF d_Mo_isName_27
    · replace hF := hF.2 hc
      refine lv_iconst hx hb d_Mo_isName_22 ki_1 ?_
      refine lv_goto hx hb d_Mo_isName_23 (tgt := 27) rfl ?_
      exact rs_zret C hH hT hS (by decide) hF d_Mo_isName_27
abbrev y_Mo_isName : MethodName := ({ cls := "RouteSpeakerModel", name := "isName", desc := "(I)Z" } : Jvm.MethodName)
theorem rc_Mo_isName : rs_Cal y_Mo_isName prog_12_method_34_code 1 (some .boolean) 1 := ⟨tw_1210, tw_11, by decide, by decide, by decide +kernel⟩
set_option maxRecDepth 20000 in
theorem J_Mo_isName (l : Launch) {G : rs_G} {Bm : Nat} {S : rs_Shp} {x0 : Int32} {σ : rs_Mem} {Q : Int32 → rs_Mem → Prop} (hF : F_Mo_isName S.2.2 x0 σ Q) :
    Met l y_Mo_isName (rs_ws y_Mo_isName prog_12_method_34_code 1 (some .boolean)) { frames := 0, cells := 0, slots := 0, locals := 0 } (rs_P G Bm S σ [.int x0]) (rs_Qi G Bm S Q) 0 0 (rs_A Bm) := by
  refine rs_met (own := "RouteSpeakerModel") (by decide) rfl (Nat.le_of_ble_eq_true rfl) (fun p e s m below meth c ls C hl hH hT hS => ?_)
  replace hl : lv_has ls 1 [(0, .int x0)] := hl
  have hx := C.1
  have hb := C.2.1
  unfold F_Mo_isName at hF
  refine lv_iload_n hx hb d_Mo_isName_0 rfl (lv_at hl 0 rfl) ?_
  refine lv_iconst hx hb d_Mo_isName_1 ki_1 ?_
  refine lv_icmp_lt hx hb d_Mo_isName_2 (tgt := 10) rfl (fun hc => ?_) (fun hc => ?_)
  · replace hF := hF.1 hc
    exact JB_Mo_isName_10 C x0 σ _ _ _ hH hT hS (lv_sub hl [0] rfl) hF
  · replace hF := hF.2 hc
    refine lv_iload_n hx hb d_Mo_isName_5 rfl (lv_at hl 0 rfl) ?_
    refine lv_iconst hx hb d_Mo_isName_6 ki_5 ?_
    refine lv_icmp_le hx hb d_Mo_isName_7 (tgt := 22) rfl (fun hc => ?_) (fun hc => ?_)
    · replace hF := hF.1 hc
      refine lv_iconst hx hb d_Mo_isName_22 ki_1 ?_
      refine lv_goto hx hb d_Mo_isName_23 (tgt := 27) rfl ?_
      exact rs_zret C hH hT hS (by decide) hF d_Mo_isName_27
    · replace hF := hF.2 hc
      exact JB_Mo_isName_10 C x0 σ _ _ _ hH hT hS (lv_sub hl [0] rfl) hF
/-! RouteSpeakerModel.badValue(III)I -/
theorem d_Mo_badValue_0 : decode prog_12_method_36_code 0 = .ok (.iload_n 1, 1) := by decide +kernel
theorem d_Mo_badValue_1 : decode prog_12_method_36_code 1 = .ok (.iconst 2, 1) := by decide +kernel
theorem d_Mo_badValue_2 : decode prog_12_method_36_code 2 = .ok (.if_icmp .eq (9), 3) := by decide +kernel
theorem d_Mo_badValue_5 : decode prog_12_method_36_code 5 = .ok (.iload_n 1, 1) := by decide +kernel
theorem d_Mo_badValue_6 : decode prog_12_method_36_code 6 = .ok (.bipush (10), 2) := by decide +kernel
theorem d_Mo_badValue_8 : decode prog_12_method_36_code 8 = .ok (.if_icmp .ne (7), 3) := by decide +kernel
theorem d_Mo_badValue_11 : decode prog_12_method_36_code 11 = .ok (.iconst 1, 1) := by decide +kernel
theorem d_Mo_badValue_12 : decode prog_12_method_36_code 12 = .ok (.goto (4), 3) := by decide +kernel
theorem d_Mo_badValue_15 : decode prog_12_method_36_code 15 = .ok (.iconst 0, 1) := by decide +kernel
theorem d_Mo_badValue_16 : decode prog_12_method_36_code 16 = .ok (.istore 4, 2) := by decide +kernel
theorem d_Mo_badValue_18 : decode prog_12_method_36_code 18 = .ok (.iload 4, 2) := by decide +kernel
theorem d_Mo_badValue_20 : decode prog_12_method_36_code 20 = .ok (.ifCond .eq (22), 3) := by decide +kernel
theorem d_Mo_badValue_23 : decode prog_12_method_36_code 23 = .ok (.iload_n 3, 1) := by decide +kernel
theorem d_Mo_badValue_24 : decode prog_12_method_36_code 24 = .ok (.iload_n 1, 1) := by decide +kernel
theorem d_Mo_badValue_25 : decode prog_12_method_36_code 25 = .ok (.iconst 2, 1) := by decide +kernel
theorem d_Mo_badValue_26 : decode prog_12_method_36_code 26 = .ok (.if_icmp .ne (8), 3) := by decide +kernel
theorem d_Mo_badValue_29 : decode prog_12_method_36_code 29 = .ok (.bipush (8), 2) := by decide +kernel
theorem d_Mo_badValue_31 : decode prog_12_method_36_code 31 = .ok (.goto (5), 3) := by decide +kernel
theorem d_Mo_badValue_34 : decode prog_12_method_36_code 34 = .ok (.bipush (6), 2) := by decide +kernel
theorem d_Mo_badValue_36 : decode prog_12_method_36_code 36 = .ok (.if_icmp .le (13), 3) := by decide +kernel
theorem d_Mo_badValue_39 : decode prog_12_method_36_code 39 = .ok (.goto (8), 3) := by decide +kernel
theorem d_Mo_badValue_42 : decode prog_12_method_36_code 42 = .ok (.iload_n 3, 1) := by decide +kernel
theorem d_Mo_badValue_43 : decode prog_12_method_36_code 43 = .ok (.iconst 1, 1) := by decide +kernel
theorem d_Mo_badValue_44 : decode prog_12_method_36_code 44 = .ok (.if_icmp .eq (5), 3) := by decide +kernel
theorem d_Mo_badValue_47 : decode prog_12_method_36_code 47 = .ok (.iconst 5, 1) := by decide +kernel
theorem d_Mo_badValue_48 : decode prog_12_method_36_code 48 = .ok (.ireturn, 1) := by decide +kernel
theorem d_Mo_badValue_49 : decode prog_12_method_36_code 49 = .ok (.iload_n 1, 1) := by decide +kernel
theorem d_Mo_badValue_50 : decode prog_12_method_36_code 50 = .ok (.iconst 1, 1) := by decide +kernel
theorem d_Mo_badValue_51 : decode prog_12_method_36_code 51 = .ok (.if_icmp .ne (16), 3) := by decide +kernel
theorem d_Mo_badValue_54 : decode prog_12_method_36_code 54 = .ok (.aload_n 0, 1) := by decide +kernel
theorem d_Mo_badValue_55 : decode prog_12_method_36_code 55 = .ok (.getfield 52, 3) := by decide +kernel
theorem d_Mo_badValue_58 : decode prog_12_method_36_code 58 = .ok (.iload_n 2, 1) := by decide +kernel
theorem d_Mo_badValue_59 : decode prog_12_method_36_code 59 = .ok (.iaload, 1) := by decide +kernel
theorem d_Mo_badValue_60 : decode prog_12_method_36_code 60 = .ok (.iconst 2, 1) := by decide +kernel
theorem d_Mo_badValue_61 : decode prog_12_method_36_code 61 = .ok (.if_icmp .le (6), 3) := by decide +kernel
theorem d_Mo_badValue_64 : decode prog_12_method_36_code 64 = .ok (.bipush (6), 2) := by decide +kernel
theorem d_Mo_badValue_66 : decode prog_12_method_36_code 66 = .ok (.ireturn, 1) := by decide +kernel
theorem d_Mo_badValue_67 : decode prog_12_method_36_code 67 = .ok (.iload_n 1, 1) := by decide +kernel
theorem d_Mo_badValue_68 : decode prog_12_method_36_code 68 = .ok (.iconst 3, 1) := by decide +kernel
theorem d_Mo_badValue_69 : decode prog_12_method_36_code 69 = .ok (.if_icmp .ne (29), 3) := by decide +kernel
theorem d_Mo_badValue_72 : decode prog_12_method_36_code 72 = .ok (.aload_n 0, 1) := by decide +kernel
theorem d_Mo_badValue_73 : decode prog_12_method_36_code 73 = .ok (.getfield 52, 3) := by decide +kernel
theorem d_Mo_badValue_76 : decode prog_12_method_36_code 76 = .ok (.iload_n 2, 1) := by decide +kernel
theorem d_Mo_badValue_77 : decode prog_12_method_36_code 77 = .ok (.iaload, 1) := by decide +kernel
theorem d_Mo_badValue_78 : decode prog_12_method_36_code 78 = .ok (.invokestatic 161, 3) := by decide +kernel
theorem d_Mo_badValue_81 : decode prog_12_method_36_code 81 = .ok (.ifCond .eq (14), 3) := by decide +kernel
theorem d_Mo_badValue_84 : decode prog_12_method_36_code 84 = .ok (.aload_n 0, 1) := by decide +kernel
theorem d_Mo_badValue_85 : decode prog_12_method_36_code 85 = .ok (.getfield 52, 3) := by decide +kernel
theorem d_Mo_badValue_88 : decode prog_12_method_36_code 88 = .ok (.iload_n 2, 1) := by decide +kernel
theorem d_Mo_badValue_89 : decode prog_12_method_36_code 89 = .ok (.iaload, 1) := by decide +kernel
theorem d_Mo_badValue_90 : decode prog_12_method_36_code 90 = .ok (.bipush (7), 2) := by decide +kernel
theorem d_Mo_badValue_92 : decode prog_12_method_36_code 92 = .ok (.if_icmp .ne (6), 3) := by decide +kernel
theorem d_Mo_badValue_95 : decode prog_12_method_36_code 95 = .ok (.bipush (8), 2) := by decide +kernel
theorem d_Mo_badValue_97 : decode prog_12_method_36_code 97 = .ok (.ireturn, 1) := by decide +kernel
theorem d_Mo_badValue_98 : decode prog_12_method_36_code 98 = .ok (.iload_n 1, 1) := by decide +kernel
theorem d_Mo_badValue_99 : decode prog_12_method_36_code 99 = .ok (.bipush (9), 2) := by decide +kernel
theorem d_Mo_badValue_101 : decode prog_12_method_36_code 101 = .ok (.if_icmp .ne (18), 3) := by decide +kernel
theorem d_Mo_badValue_104 : decode prog_12_method_36_code 104 = .ok (.aload_n 0, 1) := by decide +kernel
theorem d_Mo_badValue_105 : decode prog_12_method_36_code 105 = .ok (.getfield 52, 3) := by decide +kernel
theorem d_Mo_badValue_108 : decode prog_12_method_36_code 108 = .ok (.iload_n 2, 1) := by decide +kernel
theorem d_Mo_badValue_109 : decode prog_12_method_36_code 109 = .ok (.iaload, 1) := by decide +kernel
theorem d_Mo_badValue_110 : decode prog_12_method_36_code 110 = .ok (.invokestatic 161, 3) := by decide +kernel
theorem d_Mo_badValue_113 : decode prog_12_method_36_code 113 = .ok (.ifCond .ne (6), 3) := by decide +kernel
theorem d_Mo_badValue_116 : decode prog_12_method_36_code 116 = .ok (.bipush (9), 2) := by decide +kernel
theorem d_Mo_badValue_118 : decode prog_12_method_36_code 118 = .ok (.ireturn, 1) := by decide +kernel
theorem d_Mo_badValue_119 : decode prog_12_method_36_code 119 = .ok (.iconst 0, 1) := by decide +kernel
theorem d_Mo_badValue_120 : decode prog_12_method_36_code 120 = .ok (.istore 5, 2) := by decide +kernel
theorem d_Mo_badValue_122 : decode prog_12_method_36_code 122 = .ok (.iload 5, 2) := by decide +kernel
theorem d_Mo_badValue_124 : decode prog_12_method_36_code 124 = .ok (.iload_n 3, 1) := by decide +kernel
theorem d_Mo_badValue_125 : decode prog_12_method_36_code 125 = .ok (.if_icmp .ge (32), 3) := by decide +kernel
theorem d_Mo_badValue_128 : decode prog_12_method_36_code 128 = .ok (.iload 4, 2) := by decide +kernel
theorem d_Mo_badValue_130 : decode prog_12_method_36_code 130 = .ok (.ifCond .eq (27), 3) := by decide +kernel
theorem d_Mo_badValue_133 : decode prog_12_method_36_code 133 = .ok (.aload_n 0, 1) := by decide +kernel
theorem d_Mo_badValue_134 : decode prog_12_method_36_code 134 = .ok (.getfield 52, 3) := by decide +kernel
theorem d_Mo_badValue_137 : decode prog_12_method_36_code 137 = .ok (.iload_n 2, 1) := by decide +kernel
theorem d_Mo_badValue_138 : decode prog_12_method_36_code 138 = .ok (.iload 5, 2) := by decide +kernel
theorem d_Mo_badValue_140 : decode prog_12_method_36_code 140 = .ok (.iadd, 1) := by decide +kernel
theorem d_Mo_badValue_141 : decode prog_12_method_36_code 141 = .ok (.iaload, 1) := by decide +kernel
theorem d_Mo_badValue_142 : decode prog_12_method_36_code 142 = .ok (.invokestatic 161, 3) := by decide +kernel
theorem d_Mo_badValue_145 : decode prog_12_method_36_code 145 = .ok (.ifCond .ne (6), 3) := by decide +kernel
theorem d_Mo_badValue_148 : decode prog_12_method_36_code 148 = .ok (.bipush (11), 2) := by decide +kernel
theorem d_Mo_badValue_150 : decode prog_12_method_36_code 150 = .ok (.ireturn, 1) := by decide +kernel
theorem d_Mo_badValue_151 : decode prog_12_method_36_code 151 = .ok (.iinc 5 (1), 3) := by decide +kernel
theorem d_Mo_badValue_154 : decode prog_12_method_36_code 154 = .ok (.goto (-32), 3) := by decide +kernel
theorem d_Mo_badValue_157 : decode prog_12_method_36_code 157 = .ok (.iconst 0, 1) := by decide +kernel
theorem d_Mo_badValue_158 : decode prog_12_method_36_code 158 = .ok (.ireturn, 1) := by decide +kernel
def G_Mo_badValue_122 (N : Nat → Nat) (Q : Int32 → rs_Mem → Prop) (K122 : Nat → Int32 → Int32 → Int32 → Int32 → rs_Mem → Prop) (v0 : Nat) (x2 : Int32) (x3 : Int32) (x4 : Int32) (x5 : Int32) (σ : rs_Mem) : Prop :=
  ((x3 ≤ x5 → (Q (0 : Int32) σ)) ∧ (¬ (x3 ≤ x5) → ((x4 = 0 → (Q (0 : Int32) σ)) ∧ (¬ (x4 = 0) → (vp_in (x2 + x5) (N (rs_R σ v0 15)) ∧ (F_Mo_isNumber N (rs_I σ (rs_R σ v0 15) (x2 + x5).toNatClampNeg) σ (fun x54 σ53 => ((¬ (x54 = 0) → (∀ x55 : Int32, x55 = x5 + (1 : Int32) → (K122 v0 x2 x3 x4 x55 σ53))) ∧ (x54 = 0 → (Q (11 : Int32) σ53))))))))))
noncomputable def L_Mo_badValue_122 (N : Nat → Nat) (Q : Int32 → rs_Mem → Prop) (n : Nat) : Nat → Int32 → Int32 → Int32 → Int32 → rs_Mem → Prop := Nat.rec (motive := fun _ => Nat → Int32 → Int32 → Int32 → Int32 → rs_Mem → Prop) (fun _ _ _ _ _ _ => False) (fun _ K => G_Mo_badValue_122 N Q K) n
def B_Mo_badValue_98 (N : Nat → Nat) (Q : Int32 → rs_Mem → Prop) (v0 : Nat) (x1 : Int32) (x2 : Int32) (x3 : Int32) (x4 : Int32) (σ : rs_Mem) : Prop :=
  ((¬ (x1 = (9 : Int32)) → (∃ n : Nat, L_Mo_badValue_122 N Q n v0 x2 x3 x4 (0 : Int32) σ)) ∧ (x1 = (9 : Int32) → (vp_in x2 (N (rs_R σ v0 15)) ∧ (F_Mo_isNumber N (rs_I σ (rs_R σ v0 15) x2.toNatClampNeg) σ (fun x54 σ53 => ((¬ (x54 = 0) → (∃ n : Nat, L_Mo_badValue_122 N Q n v0 x2 x3 x4 (0 : Int32) σ53)) ∧ (x54 = 0 → (Q (9 : Int32) σ53))))))))
def B_Mo_badValue_67 (N : Nat → Nat) (Q : Int32 → rs_Mem → Prop) (v0 : Nat) (x1 : Int32) (x2 : Int32) (x3 : Int32) (x4 : Int32) (σ : rs_Mem) : Prop :=
  ((¬ (x1 = (3 : Int32)) → (B_Mo_badValue_98 N Q v0 x1 x2 x3 x4 σ)) ∧ (x1 = (3 : Int32) → (vp_in x2 (N (rs_R σ v0 15)) ∧ (F_Mo_isNumber N (rs_I σ (rs_R σ v0 15) x2.toNatClampNeg) σ (fun x54 σ53 => ((x54 = 0 → (Q (8 : Int32) σ53)) ∧ (¬ (x54 = 0) → (vp_in x2 (N (rs_R σ53 v0 15)) ∧ ((¬ ((rs_I σ53 (rs_R σ53 v0 15) x2.toNatClampNeg) = (7 : Int32)) → (B_Mo_badValue_98 N Q v0 x1 x2 x3 x4 σ53)) ∧ ((rs_I σ53 (rs_R σ53 v0 15) x2.toNatClampNeg) = (7 : Int32) → (Q (8 : Int32) σ53)))))))))))
def B_Mo_badValue_49 (N : Nat → Nat) (Q : Int32 → rs_Mem → Prop) (v0 : Nat) (x1 : Int32) (x2 : Int32) (x3 : Int32) (x4 : Int32) (σ : rs_Mem) : Prop :=
  ((¬ (x1 = (1 : Int32)) → (B_Mo_badValue_67 N Q v0 x1 x2 x3 x4 σ)) ∧ (x1 = (1 : Int32) → (vp_in x2 (N (rs_R σ v0 15)) ∧ (((rs_I σ (rs_R σ v0 15) x2.toNatClampNeg) ≤ (2 : Int32) → (B_Mo_badValue_67 N Q v0 x1 x2 x3 x4 σ)) ∧ (¬ ((rs_I σ (rs_R σ v0 15) x2.toNatClampNeg) ≤ (2 : Int32)) → (Q (6 : Int32) σ))))))
def B_Mo_badValue_36 (N : Nat → Nat) (Q : Int32 → rs_Mem → Prop) (v0 : Nat) (x1 : Int32) (x2 : Int32) (x3 : Int32) (x4 : Int32) (y0 : Int32) (y1 : Int32) (σ : rs_Mem) : Prop :=
  ((y0 ≤ y1 → (B_Mo_badValue_49 N Q v0 x1 x2 x3 x4 σ)) ∧ (¬ (y0 ≤ y1) → (Q (5 : Int32) σ)))
def B_Mo_badValue_16 (N : Nat → Nat) (Q : Int32 → rs_Mem → Prop) (v0 : Nat) (x1 : Int32) (x2 : Int32) (x3 : Int32) (y0 : Int32) (σ : rs_Mem) : Prop :=
  ((y0 = 0 → ((x3 = (1 : Int32) → (B_Mo_badValue_49 N Q v0 x1 x2 x3 y0 σ)) ∧ (¬ (x3 = (1 : Int32)) → (Q (5 : Int32) σ)))) ∧ (¬ (y0 = 0) → ((¬ (x1 = (2 : Int32)) → (B_Mo_badValue_36 N Q v0 x1 x2 x3 y0 x3 (6 : Int32) σ)) ∧ (x1 = (2 : Int32) → (B_Mo_badValue_36 N Q v0 x1 x2 x3 y0 x3 (8 : Int32) σ)))))
def B_Mo_badValue_11 (N : Nat → Nat) (Q : Int32 → rs_Mem → Prop) (v0 : Nat) (x1 : Int32) (x2 : Int32) (x3 : Int32) (σ : rs_Mem) : Prop :=
  (B_Mo_badValue_16 N Q v0 x1 x2 x3 (1 : Int32) σ)
def F_Mo_badValue (N : Nat → Nat) (v0 : Nat) (x1 : Int32) (x2 : Int32) (x3 : Int32) (σ : rs_Mem) (Q : Int32 → rs_Mem → Prop) : Prop :=
  ((x1 = (2 : Int32) → (B_Mo_badValue_11 N Q v0 x1 x2 x3 σ)) ∧ (¬ (x1 = (2 : Int32)) → ((¬ (x1 = (10 : Int32)) → (B_Mo_badValue_16 N Q v0 x1 x2 x3 (0 : Int32) σ)) ∧ (x1 = (10 : Int32) → (B_Mo_badValue_11 N Q v0 x1 x2 x3 σ)))))
set_option maxRecDepth 20000 in
theorem JL_Mo_badValue_122 {p : Program} {l : Launch} {e : Env} {s : State} {m : MethodId} {args : Array Value} {below : List Frame} {meth : Method} {c : Code} {G : rs_G} {Bm : Nat} {S : rs_Shp} {Q : Int32 → rs_Mem → Prop} (C : rs_C "RouteSpeakerModel" prog_12_method_36_code 6 (some .int) G p s m meth c args) : ∀ n : Nat, ∀ (v0 : Nat) (x2 : Int32) (x3 : Int32) (x4 : Int32) (x5 : Int32) (σ : rs_Mem) (H : Heap) (locs : List Loc) (ls : Array Slot), rs_Ok S 11 v0 → rs_H G Bm S σ H → rs_T S σ → va_S (rs_A Bm) s.heap H locs → lv_has ls 6 [(0, .ref (Bm + v0)), (2, .int x2), (3, .int x3), (4, .int x4), (5, .int x5)] → (L_Mo_badValue_122 S.2.2 Q n) v0 x2 x3 x4 x5 σ → W p l e { frames := 1, cells := 0, slots := 0, locals := 20 } s m args below meth c H locs 0 0 (MQ below (rs_Qi G Bm S Q) args s 0 0 (rs_A Bm)) (F0 m 122 ls []) := by
  have hx := C.1
  have hb := C.2.1
  intro n
  induction n with
  | zero => intros; rename_i hF; exact hF.elim
  | succ n hK122 =>
    intro v0 x2 x3 x4 x5 σ H locs ls h_v0 hH hT hS hl hF
    replace hF : G_Mo_badValue_122 S.2.2 Q (L_Mo_badValue_122 S.2.2 Q n) v0 x2 x3 x4 x5 σ := hF
    unfold G_Mo_badValue_122 at hF
    refine lv_iload hx hb d_Mo_badValue_122 (lv_at hl 4 rfl) ?_
    refine lv_iload_n hx hb d_Mo_badValue_124 rfl (lv_at hl 2 rfl) ?_
    refine lv_icmp_ge hx hb d_Mo_badValue_125 (tgt := 157) rfl (fun hc => ?_) (fun hc => ?_)
    · replace hF := hF.1 hc
      refine lv_iconst hx hb d_Mo_badValue_157 ki_0 ?_
      exact rs_iret C hH hT hS hF d_Mo_badValue_158
    · replace hF := hF.2 hc
      refine lv_iload hx hb d_Mo_badValue_128 (lv_at hl 3 rfl) ?_
      refine lv_if_eq hx hb d_Mo_badValue_130 (tgt := 157) rfl (fun hc => ?_) (fun hc => ?_)
      · replace hF := hF.1 hc
        refine lv_iconst hx hb d_Mo_badValue_157 ki_0 ?_
        exact rs_iret C hH hT hS hF d_Mo_badValue_158
      · replace hF := hF.2 hc
        refine lv_aload_n hx hb d_Mo_badValue_133 rfl (lv_at hl 0 rfl) ?_
        refine rs_getR C hH hT h_v0 fk_11_15 tw_914 d_Mo_badValue_134 (fun h51 => ?_)
        refine lv_iload_n hx hb d_Mo_badValue_137 rfl (lv_at hl 1 rfl) ?_
        refine lv_iload hx hb d_Mo_badValue_138 (lv_at hl 4 rfl) ?_
        refine lv_iadd hx hb d_Mo_badValue_140 ?_
        obtain ⟨g52, hF⟩ := hF
        refine rs_iald C hH h51 g52 d_Mo_badValue_141 ?_
        refine rs_ci (rs_runS C hH hT hl (J_Mo_isNumber l hF) rc_Mo_isNumber tw_1034 tw_1035 rfl ⟨⟨rfl, rfl⟩, by decide, by decide, by decide⟩ (Nat.le_of_ble_eq_true rfl) rfl d_Mo_badValue_142) hS (fun x54 σ53 H locs hH hT hS hF => ?_)
        refine lv_if_ne hx hb d_Mo_badValue_145 (tgt := 151) rfl (fun hc => ?_) (fun hc => ?_)
        · replace hF := hF.1 hc
          obtain ⟨x55, ex55⟩ : ∃ z : Int32, z = x5 + (1 : Int32) := ⟨_, rfl⟩
          replace hF := hF x55 ex55
          refine lv_iinc hx hb d_Mo_badValue_151 hl (k := 4) rfl (v := x55) (by rw [ki_1, ex55]) (by decide) (lv' := [(5, .int x55), (0, .ref (Bm + v0)), (2, .int x2), (3, .int x3), (4, .int x4)]) rfl (fun ls hl => ?_)
          refine lv_goto hx hb d_Mo_badValue_154 (tgt := 122) rfl ?_
          exact hK122 v0 x2 x3 x4 x55 σ53 _ _ _ h_v0 hH hT hS (lv_sub hl [1, 2, 3, 4, 0] rfl) hF
        · replace hF := hF.2 hc
          refine lv_bipush hx hb d_Mo_badValue_148 kb_11 ?_
          exact rs_iret C hH hT hS hF d_Mo_badValue_150
set_option maxRecDepth 20000 in
theorem JB_Mo_badValue_98 {p : Program} {l : Launch} {e : Env} {s : State} {m : MethodId} {args : Array Value} {below : List Frame} {meth : Method} {c : Code} {G : rs_G} {Bm : Nat} {S : rs_Shp} {Q : Int32 → rs_Mem → Prop} (C : rs_C "RouteSpeakerModel" prog_12_method_36_code 6 (some .int) G p s m meth c args) (v0 : Nat) (x1 : Int32) (x2 : Int32) (x3 : Int32) (x4 : Int32) (σ : rs_Mem) (H : Heap) (locs : List Loc) (ls : Array Slot) (h_v0 : rs_Ok S 11 v0) (hH : rs_H G Bm S σ H) (hT : rs_T S σ) (hS : va_S (rs_A Bm) s.heap H locs) (hl : lv_has ls 6 [(0, .ref (Bm + v0)), (1, .int x1), (2, .int x2), (3, .int x3), (4, .int x4)]) (hF : B_Mo_badValue_98 S.2.2 Q v0 x1 x2 x3 x4 σ) :
    W p l e { frames := 1, cells := 0, slots := 0, locals := 20 } s m args below meth c H locs 0 0 (MQ below (rs_Qi G Bm S Q) args s 0 0 (rs_A Bm)) (F0 m 98 ls []) := by
  have hx := C.1
  have hb := C.2.1
  unfold B_Mo_badValue_98 at hF
  refine lv_iload_n hx hb d_Mo_badValue_98 rfl (lv_at hl 1 rfl) ?_
  refine lv_bipush hx hb d_Mo_badValue_99 kb_9 ?_
  refine lv_icmp_ne hx hb d_Mo_badValue_101 (tgt := 119) rfl (fun hc => ?_) (fun hc => ?_)
  · replace hF := hF.1 hc
    refine lv_iconst hx hb d_Mo_badValue_119 ki_0 ?_
    refine lv_istore hx hb d_Mo_badValue_120 hl (by decide) (lv' := [(5, .int (0 : Int32)), (0, .ref (Bm + v0)), (1, .int x1), (2, .int x2), (3, .int x3), (4, .int x4)]) rfl (fun ls hl => ?_)
    obtain ⟨n, hF⟩ := hF
    exact JL_Mo_badValue_122 C n v0 x2 x3 x4 (0 : Int32) σ _ _ _ h_v0 hH hT hS (lv_sub hl [1, 3, 4, 5, 0] rfl) hF
  · replace hF := hF.2 hc
    refine lv_aload_n hx hb d_Mo_badValue_104 rfl (lv_at hl 0 rfl) ?_
    refine rs_getR C hH hT h_v0 fk_11_15 tw_914 d_Mo_badValue_105 (fun h51 => ?_)
    refine lv_iload_n hx hb d_Mo_badValue_108 rfl (lv_at hl 2 rfl) ?_
    obtain ⟨g52, hF⟩ := hF
    refine rs_iald C hH h51 g52 d_Mo_badValue_109 ?_
    refine rs_ci (rs_runS C hH hT hl (J_Mo_isNumber l hF) rc_Mo_isNumber tw_1034 tw_1035 rfl ⟨⟨rfl, rfl⟩, by decide, by decide, by decide⟩ (Nat.le_of_ble_eq_true rfl) rfl d_Mo_badValue_110) hS (fun x54 σ53 H locs hH hT hS hF => ?_)
    refine lv_if_ne hx hb d_Mo_badValue_113 (tgt := 119) rfl (fun hc => ?_) (fun hc => ?_)
    · replace hF := hF.1 hc
      refine lv_iconst hx hb d_Mo_badValue_119 ki_0 ?_
      refine lv_istore hx hb d_Mo_badValue_120 hl (by decide) (lv' := [(5, .int (0 : Int32)), (0, .ref (Bm + v0)), (1, .int x1), (2, .int x2), (3, .int x3), (4, .int x4)]) rfl (fun ls hl => ?_)
      obtain ⟨n, hF⟩ := hF
      exact JL_Mo_badValue_122 C n v0 x2 x3 x4 (0 : Int32) σ53 _ _ _ h_v0 hH hT hS (lv_sub hl [1, 3, 4, 5, 0] rfl) hF
    · replace hF := hF.2 hc
      refine lv_bipush hx hb d_Mo_badValue_116 kb_9 ?_
      exact rs_iret C hH hT hS hF d_Mo_badValue_118
set_option maxRecDepth 20000 in
theorem JB_Mo_badValue_67 {p : Program} {l : Launch} {e : Env} {s : State} {m : MethodId} {args : Array Value} {below : List Frame} {meth : Method} {c : Code} {G : rs_G} {Bm : Nat} {S : rs_Shp} {Q : Int32 → rs_Mem → Prop} (C : rs_C "RouteSpeakerModel" prog_12_method_36_code 6 (some .int) G p s m meth c args) (v0 : Nat) (x1 : Int32) (x2 : Int32) (x3 : Int32) (x4 : Int32) (σ : rs_Mem) (H : Heap) (locs : List Loc) (ls : Array Slot) (h_v0 : rs_Ok S 11 v0) (hH : rs_H G Bm S σ H) (hT : rs_T S σ) (hS : va_S (rs_A Bm) s.heap H locs) (hl : lv_has ls 6 [(0, .ref (Bm + v0)), (1, .int x1), (2, .int x2), (3, .int x3), (4, .int x4)]) (hF : B_Mo_badValue_67 S.2.2 Q v0 x1 x2 x3 x4 σ) :
    W p l e { frames := 1, cells := 0, slots := 0, locals := 20 } s m args below meth c H locs 0 0 (MQ below (rs_Qi G Bm S Q) args s 0 0 (rs_A Bm)) (F0 m 67 ls []) := by
  have hx := C.1
  have hb := C.2.1
  unfold B_Mo_badValue_67 at hF
  refine lv_iload_n hx hb d_Mo_badValue_67 rfl (lv_at hl 1 rfl) ?_
  refine lv_iconst hx hb d_Mo_badValue_68 ki_3 ?_
  refine lv_icmp_ne hx hb d_Mo_badValue_69 (tgt := 98) rfl (fun hc => ?_) (fun hc => ?_)
  · replace hF := hF.1 hc
    exact JB_Mo_badValue_98 C v0 x1 x2 x3 x4 σ _ _ _ h_v0 hH hT hS (lv_sub hl [0, 1, 2, 3, 4] rfl) hF
  · replace hF := hF.2 hc
    refine lv_aload_n hx hb d_Mo_badValue_72 rfl (lv_at hl 0 rfl) ?_
    refine rs_getR C hH hT h_v0 fk_11_15 tw_914 d_Mo_badValue_73 (fun h51 => ?_)
    refine lv_iload_n hx hb d_Mo_badValue_76 rfl (lv_at hl 2 rfl) ?_
    obtain ⟨g52, hF⟩ := hF
    refine rs_iald C hH h51 g52 d_Mo_badValue_77 ?_
    refine rs_ci (rs_runS C hH hT hl (J_Mo_isNumber l hF) rc_Mo_isNumber tw_1034 tw_1035 rfl ⟨⟨rfl, rfl⟩, by decide, by decide, by decide⟩ (Nat.le_of_ble_eq_true rfl) rfl d_Mo_badValue_78) hS (fun x54 σ53 H locs hH hT hS hF => ?_)
    refine lv_if_eq hx hb d_Mo_badValue_81 (tgt := 95) rfl (fun hc => ?_) (fun hc => ?_)
    · replace hF := hF.1 hc
      refine lv_bipush hx hb d_Mo_badValue_95 kb_8 ?_
      exact rs_iret C hH hT hS hF d_Mo_badValue_97
    · replace hF := hF.2 hc
      refine lv_aload_n hx hb d_Mo_badValue_84 rfl (lv_at hl 0 rfl) ?_
      refine rs_getR C hH hT h_v0 fk_11_15 tw_914 d_Mo_badValue_85 (fun h55 => ?_)
      refine lv_iload_n hx hb d_Mo_badValue_88 rfl (lv_at hl 2 rfl) ?_
      obtain ⟨g56, hF⟩ := hF
      refine rs_iald C hH h55 g56 d_Mo_badValue_89 ?_
      refine lv_bipush hx hb d_Mo_badValue_90 kb_7 ?_
      refine lv_icmp_ne hx hb d_Mo_badValue_92 (tgt := 98) rfl (fun hc => ?_) (fun hc => ?_)
      · replace hF := hF.1 hc
        exact JB_Mo_badValue_98 C v0 x1 x2 x3 x4 σ53 _ _ _ h_v0 hH hT hS (lv_sub hl [0, 1, 2, 3, 4] rfl) hF
      · replace hF := hF.2 hc
        refine lv_bipush hx hb d_Mo_badValue_95 kb_8 ?_
        exact rs_iret C hH hT hS hF d_Mo_badValue_97
set_option maxRecDepth 20000 in
theorem JB_Mo_badValue_49 {p : Program} {l : Launch} {e : Env} {s : State} {m : MethodId} {args : Array Value} {below : List Frame} {meth : Method} {c : Code} {G : rs_G} {Bm : Nat} {S : rs_Shp} {Q : Int32 → rs_Mem → Prop} (C : rs_C "RouteSpeakerModel" prog_12_method_36_code 6 (some .int) G p s m meth c args) (v0 : Nat) (x1 : Int32) (x2 : Int32) (x3 : Int32) (x4 : Int32) (σ : rs_Mem) (H : Heap) (locs : List Loc) (ls : Array Slot) (h_v0 : rs_Ok S 11 v0) (hH : rs_H G Bm S σ H) (hT : rs_T S σ) (hS : va_S (rs_A Bm) s.heap H locs) (hl : lv_has ls 6 [(0, .ref (Bm + v0)), (1, .int x1), (2, .int x2), (3, .int x3), (4, .int x4)]) (hF : B_Mo_badValue_49 S.2.2 Q v0 x1 x2 x3 x4 σ) :
    W p l e { frames := 1, cells := 0, slots := 0, locals := 20 } s m args below meth c H locs 0 0 (MQ below (rs_Qi G Bm S Q) args s 0 0 (rs_A Bm)) (F0 m 49 ls []) := by
  have hx := C.1
  have hb := C.2.1
  unfold B_Mo_badValue_49 at hF
  refine lv_iload_n hx hb d_Mo_badValue_49 rfl (lv_at hl 1 rfl) ?_
  refine lv_iconst hx hb d_Mo_badValue_50 ki_1 ?_
  refine lv_icmp_ne hx hb d_Mo_badValue_51 (tgt := 67) rfl (fun hc => ?_) (fun hc => ?_)
  · replace hF := hF.1 hc
    exact JB_Mo_badValue_67 C v0 x1 x2 x3 x4 σ _ _ _ h_v0 hH hT hS (lv_sub hl [0, 1, 2, 3, 4] rfl) hF
  · replace hF := hF.2 hc
    refine lv_aload_n hx hb d_Mo_badValue_54 rfl (lv_at hl 0 rfl) ?_
    refine rs_getR C hH hT h_v0 fk_11_15 tw_914 d_Mo_badValue_55 (fun h51 => ?_)
    refine lv_iload_n hx hb d_Mo_badValue_58 rfl (lv_at hl 2 rfl) ?_
    obtain ⟨g52, hF⟩ := hF
    refine rs_iald C hH h51 g52 d_Mo_badValue_59 ?_
    refine lv_iconst hx hb d_Mo_badValue_60 ki_2 ?_
    refine lv_icmp_le hx hb d_Mo_badValue_61 (tgt := 67) rfl (fun hc => ?_) (fun hc => ?_)
    · replace hF := hF.1 hc
      exact JB_Mo_badValue_67 C v0 x1 x2 x3 x4 σ _ _ _ h_v0 hH hT hS (lv_sub hl [0, 1, 2, 3, 4] rfl) hF
    · replace hF := hF.2 hc
      refine lv_bipush hx hb d_Mo_badValue_64 kb_6 ?_
      exact rs_iret C hH hT hS hF d_Mo_badValue_66
set_option maxRecDepth 20000 in
theorem JB_Mo_badValue_36 {p : Program} {l : Launch} {e : Env} {s : State} {m : MethodId} {args : Array Value} {below : List Frame} {meth : Method} {c : Code} {G : rs_G} {Bm : Nat} {S : rs_Shp} {Q : Int32 → rs_Mem → Prop} (C : rs_C "RouteSpeakerModel" prog_12_method_36_code 6 (some .int) G p s m meth c args) (v0 : Nat) (x1 : Int32) (x2 : Int32) (x3 : Int32) (x4 : Int32) (y0 : Int32) (y1 : Int32) (σ : rs_Mem) (H : Heap) (locs : List Loc) (ls : Array Slot) (h_v0 : rs_Ok S 11 v0) (hH : rs_H G Bm S σ H) (hT : rs_T S σ) (hS : va_S (rs_A Bm) s.heap H locs) (hl : lv_has ls 6 [(0, .ref (Bm + v0)), (1, .int x1), (2, .int x2), (3, .int x3), (4, .int x4)]) (hF : B_Mo_badValue_36 S.2.2 Q v0 x1 x2 x3 x4 y0 y1 σ) :
    W p l e { frames := 1, cells := 0, slots := 0, locals := 20 } s m args below meth c H locs 0 0 (MQ below (rs_Qi G Bm S Q) args s 0 0 (rs_A Bm)) (F0 m 36 ls [.int y1, .int y0]) := by
  have hx := C.1
  have hb := C.2.1
  unfold B_Mo_badValue_36 at hF
  refine lv_icmp_le hx hb d_Mo_badValue_36 (tgt := 49) rfl (fun hc => ?_) (fun hc => ?_)
  · replace hF := hF.1 hc
    exact JB_Mo_badValue_49 C v0 x1 x2 x3 x4 σ _ _ _ h_v0 hH hT hS (lv_sub hl [0, 1, 2, 3, 4] rfl) hF
  · replace hF := hF.2 hc
    refine lv_goto hx hb d_Mo_badValue_39 (tgt := 47) rfl ?_
    refine lv_iconst hx hb d_Mo_badValue_47 ki_5 ?_
    exact rs_iret C hH hT hS hF d_Mo_badValue_48
set_option maxRecDepth 20000 in
theorem JB_Mo_badValue_16 {p : Program} {l : Launch} {e : Env} {s : State} {m : MethodId} {args : Array Value} {below : List Frame} {meth : Method} {c : Code} {G : rs_G} {Bm : Nat} {S : rs_Shp} {Q : Int32 → rs_Mem → Prop} (C : rs_C "RouteSpeakerModel" prog_12_method_36_code 6 (some .int) G p s m meth c args) (v0 : Nat) (x1 : Int32) (x2 : Int32) (x3 : Int32) (y0 : Int32) (σ : rs_Mem) (H : Heap) (locs : List Loc) (ls : Array Slot) (h_v0 : rs_Ok S 11 v0) (hH : rs_H G Bm S σ H) (hT : rs_T S σ) (hS : va_S (rs_A Bm) s.heap H locs) (hl : lv_has ls 6 [(0, .ref (Bm + v0)), (1, .int x1), (2, .int x2), (3, .int x3)]) (hF : B_Mo_badValue_16 S.2.2 Q v0 x1 x2 x3 y0 σ) :
    W p l e { frames := 1, cells := 0, slots := 0, locals := 20 } s m args below meth c H locs 0 0 (MQ below (rs_Qi G Bm S Q) args s 0 0 (rs_A Bm)) (F0 m 16 ls [.int y0]) := by
  have hx := C.1
  have hb := C.2.1
  unfold B_Mo_badValue_16 at hF
  refine lv_istore hx hb d_Mo_badValue_16 hl (by decide) (lv' := [(4, .int y0), (0, .ref (Bm + v0)), (1, .int x1), (2, .int x2), (3, .int x3)]) rfl (fun ls hl => ?_)
  refine lv_iload hx hb d_Mo_badValue_18 (lv_at hl 0 rfl) ?_
  refine lv_if_eq hx hb d_Mo_badValue_20 (tgt := 42) rfl (fun hc => ?_) (fun hc => ?_)
  · replace hF := hF.1 hc
    refine lv_iload_n hx hb d_Mo_badValue_42 rfl (lv_at hl 4 rfl) ?_
    refine lv_iconst hx hb d_Mo_badValue_43 ki_1 ?_
    refine lv_icmp_eq hx hb d_Mo_badValue_44 (tgt := 49) rfl (fun hc => ?_) (fun hc => ?_)
    · replace hF := hF.1 hc
      exact JB_Mo_badValue_49 C v0 x1 x2 x3 y0 σ _ _ _ h_v0 hH hT hS (lv_sub hl [1, 2, 3, 4, 0] rfl) hF
    · replace hF := hF.2 hc
      refine lv_iconst hx hb d_Mo_badValue_47 ki_5 ?_
      exact rs_iret C hH hT hS hF d_Mo_badValue_48
  · replace hF := hF.2 hc
    refine lv_iload_n hx hb d_Mo_badValue_23 rfl (lv_at hl 4 rfl) ?_
    refine lv_iload_n hx hb d_Mo_badValue_24 rfl (lv_at hl 2 rfl) ?_
    refine lv_iconst hx hb d_Mo_badValue_25 ki_2 ?_
    refine lv_icmp_ne hx hb d_Mo_badValue_26 (tgt := 34) rfl (fun hc => ?_) (fun hc => ?_)
    · replace hF := hF.1 hc
      refine lv_bipush hx hb d_Mo_badValue_34 kb_6 ?_
      exact JB_Mo_badValue_36 C v0 x1 x2 x3 y0 x3 (6 : Int32) σ _ _ _ h_v0 hH hT hS (lv_sub hl [1, 2, 3, 4, 0] rfl) hF
    · replace hF := hF.2 hc
      refine lv_bipush hx hb d_Mo_badValue_29 kb_8 ?_
      refine lv_goto hx hb d_Mo_badValue_31 (tgt := 36) rfl ?_
      exact JB_Mo_badValue_36 C v0 x1 x2 x3 y0 x3 (8 : Int32) σ _ _ _ h_v0 hH hT hS (lv_sub hl [1, 2, 3, 4, 0] rfl) hF
set_option maxRecDepth 20000 in
theorem JB_Mo_badValue_11 {p : Program} {l : Launch} {e : Env} {s : State} {m : MethodId} {args : Array Value} {below : List Frame} {meth : Method} {c : Code} {G : rs_G} {Bm : Nat} {S : rs_Shp} {Q : Int32 → rs_Mem → Prop} (C : rs_C "RouteSpeakerModel" prog_12_method_36_code 6 (some .int) G p s m meth c args) (v0 : Nat) (x1 : Int32) (x2 : Int32) (x3 : Int32) (σ : rs_Mem) (H : Heap) (locs : List Loc) (ls : Array Slot) (h_v0 : rs_Ok S 11 v0) (hH : rs_H G Bm S σ H) (hT : rs_T S σ) (hS : va_S (rs_A Bm) s.heap H locs) (hl : lv_has ls 6 [(0, .ref (Bm + v0)), (1, .int x1), (2, .int x2), (3, .int x3)]) (hF : B_Mo_badValue_11 S.2.2 Q v0 x1 x2 x3 σ) :
    W p l e { frames := 1, cells := 0, slots := 0, locals := 20 } s m args below meth c H locs 0 0 (MQ below (rs_Qi G Bm S Q) args s 0 0 (rs_A Bm)) (F0 m 11 ls []) := by
  have hx := C.1
  have hb := C.2.1
  unfold B_Mo_badValue_11 at hF
  refine lv_iconst hx hb d_Mo_badValue_11 ki_1 ?_
  refine lv_goto hx hb d_Mo_badValue_12 (tgt := 16) rfl ?_
  exact JB_Mo_badValue_16 C v0 x1 x2 x3 (1 : Int32) σ _ _ _ h_v0 hH hT hS (lv_sub hl [0, 1, 2, 3] rfl) hF
abbrev y_Mo_badValue : MethodName := ({ cls := "RouteSpeakerModel", name := "badValue", desc := "(III)I" } : Jvm.MethodName)
theorem rc_Mo_badValue : rs_Cal y_Mo_badValue prog_12_method_36_code 6 (some .int) 3 := ⟨tw_1214, tw_11, by decide, by decide, by decide +kernel⟩
set_option maxRecDepth 20000 in
theorem J_Mo_badValue (l : Launch) {G : rs_G} {Bm : Nat} {S : rs_Shp} {v0 : Nat} {x1 : Int32} {x2 : Int32} {x3 : Int32} {σ : rs_Mem} {Q : Int32 → rs_Mem → Prop} (h_v0 : rs_Ok S 11 v0) (hF : F_Mo_badValue S.2.2 v0 x1 x2 x3 σ Q) :
    Met l y_Mo_badValue (rs_ws y_Mo_badValue prog_12_method_36_code 6 (some .int)) { frames := 1, cells := 0, slots := 0, locals := 20 } (rs_P G Bm S σ [.ref (Bm + v0), .int x1, .int x2, .int x3]) (rs_Qi G Bm S Q) 0 0 (rs_A Bm) := by
  refine rs_met (own := "RouteSpeakerModel") (by decide) rfl (Nat.le_of_ble_eq_true rfl) (fun p e s m below meth c ls C hl hH hT hS => ?_)
  replace hl : lv_has ls 6 [(0, .ref (Bm + v0)), (1, .int x1), (2, .int x2), (3, .int x3)] := hl
  have hx := C.1
  have hb := C.2.1
  unfold F_Mo_badValue at hF
  refine lv_iload_n hx hb d_Mo_badValue_0 rfl (lv_at hl 1 rfl) ?_
  refine lv_iconst hx hb d_Mo_badValue_1 ki_2 ?_
  refine lv_icmp_eq hx hb d_Mo_badValue_2 (tgt := 11) rfl (fun hc => ?_) (fun hc => ?_)
  · replace hF := hF.1 hc
    exact JB_Mo_badValue_11 C v0 x1 x2 x3 σ _ _ _ h_v0 hH hT hS (lv_sub hl [0, 1, 2, 3] rfl) hF
  · replace hF := hF.2 hc
    refine lv_iload_n hx hb d_Mo_badValue_5 rfl (lv_at hl 1 rfl) ?_
    refine lv_bipush hx hb d_Mo_badValue_6 kb_10 ?_
    refine lv_icmp_ne hx hb d_Mo_badValue_8 (tgt := 15) rfl (fun hc => ?_) (fun hc => ?_)
    · replace hF := hF.1 hc
      refine lv_iconst hx hb d_Mo_badValue_15 ki_0 ?_
      exact JB_Mo_badValue_16 C v0 x1 x2 x3 (0 : Int32) σ _ _ _ h_v0 hH hT hS (lv_sub hl [0, 1, 2, 3] rfl) hF
    · replace hF := hF.2 hc
      exact JB_Mo_badValue_11 C v0 x1 x2 x3 σ _ _ _ h_v0 hH hT hS (lv_sub hl [0, 1, 2, 3] rfl) hF
/-! RouteSpeakerModel.badAttributes(II)I -/
theorem d_Mo_badAttributes_0 : decode prog_12_method_35_code 0 = .ok (.iconst 0, 1) := by decide +kernel
theorem d_Mo_badAttributes_1 : decode prog_12_method_35_code 1 = .ok (.istore_n 3, 1) := by decide +kernel
theorem d_Mo_badAttributes_2 : decode prog_12_method_35_code 2 = .ok (.iload_n 3, 1) := by decide +kernel
theorem d_Mo_badAttributes_3 : decode prog_12_method_35_code 3 = .ok (.bipush (11), 2) := by decide +kernel
theorem d_Mo_badAttributes_5 : decode prog_12_method_35_code 5 = .ok (.if_icmp .ge (16), 3) := by decide +kernel
theorem d_Mo_badAttributes_8 : decode prog_12_method_35_code 8 = .ok (.aload_n 0, 1) := by decide +kernel
theorem d_Mo_badAttributes_9 : decode prog_12_method_35_code 9 = .ok (.getfield 120, 3) := by decide +kernel
theorem d_Mo_badAttributes_12 : decode prog_12_method_35_code 12 = .ok (.iload_n 3, 1) := by decide +kernel
theorem d_Mo_badAttributes_13 : decode prog_12_method_35_code 13 = .ok (.iconst (-1), 1) := by decide +kernel
theorem d_Mo_badAttributes_14 : decode prog_12_method_35_code 14 = .ok (.iastore, 1) := by decide +kernel
theorem d_Mo_badAttributes_15 : decode prog_12_method_35_code 15 = .ok (.iinc 3 (1), 3) := by decide +kernel
theorem d_Mo_badAttributes_18 : decode prog_12_method_35_code 18 = .ok (.goto (-16), 3) := by decide +kernel
theorem d_Mo_badAttributes_21 : decode prog_12_method_35_code 21 = .ok (.iload_n 1, 1) := by decide +kernel
theorem d_Mo_badAttributes_22 : decode prog_12_method_35_code 22 = .ok (.istore_n 3, 1) := by decide +kernel
theorem d_Mo_badAttributes_23 : decode prog_12_method_35_code 23 = .ok (.iload_n 3, 1) := by decide +kernel
theorem d_Mo_badAttributes_24 : decode prog_12_method_35_code 24 = .ok (.iload_n 2, 1) := by decide +kernel
theorem d_Mo_badAttributes_25 : decode prog_12_method_35_code 25 = .ok (.if_icmp .ge (44), 3) := by decide +kernel
theorem d_Mo_badAttributes_28 : decode prog_12_method_35_code 28 = .ok (.iload_n 3, 1) := by decide +kernel
theorem d_Mo_badAttributes_29 : decode prog_12_method_35_code 29 = .ok (.iconst 2, 1) := by decide +kernel
theorem d_Mo_badAttributes_30 : decode prog_12_method_35_code 30 = .ok (.iadd, 1) := by decide +kernel
theorem d_Mo_badAttributes_31 : decode prog_12_method_35_code 31 = .ok (.iload_n 2, 1) := by decide +kernel
theorem d_Mo_badAttributes_32 : decode prog_12_method_35_code 32 = .ok (.if_icmp .gt (19), 3) := by decide +kernel
theorem d_Mo_badAttributes_35 : decode prog_12_method_35_code 35 = .ok (.iload_n 3, 1) := by decide +kernel
theorem d_Mo_badAttributes_36 : decode prog_12_method_35_code 36 = .ok (.iconst 2, 1) := by decide +kernel
theorem d_Mo_badAttributes_37 : decode prog_12_method_35_code 37 = .ok (.iadd, 1) := by decide +kernel
theorem d_Mo_badAttributes_38 : decode prog_12_method_35_code 38 = .ok (.aload_n 0, 1) := by decide +kernel
theorem d_Mo_badAttributes_39 : decode prog_12_method_35_code 39 = .ok (.getfield 52, 3) := by decide +kernel
theorem d_Mo_badAttributes_42 : decode prog_12_method_35_code 42 = .ok (.iload_n 3, 1) := by decide +kernel
theorem d_Mo_badAttributes_43 : decode prog_12_method_35_code 43 = .ok (.iconst 1, 1) := by decide +kernel
theorem d_Mo_badAttributes_44 : decode prog_12_method_35_code 44 = .ok (.iadd, 1) := by decide +kernel
theorem d_Mo_badAttributes_45 : decode prog_12_method_35_code 45 = .ok (.iaload, 1) := by decide +kernel
theorem d_Mo_badAttributes_46 : decode prog_12_method_35_code 46 = .ok (.iadd, 1) := by decide +kernel
theorem d_Mo_badAttributes_47 : decode prog_12_method_35_code 47 = .ok (.iload_n 2, 1) := by decide +kernel
theorem d_Mo_badAttributes_48 : decode prog_12_method_35_code 48 = .ok (.if_icmp .le (5), 3) := by decide +kernel
theorem d_Mo_badAttributes_51 : decode prog_12_method_35_code 51 = .ok (.iconst 1, 1) := by decide +kernel
theorem d_Mo_badAttributes_52 : decode prog_12_method_35_code 52 = .ok (.ireturn, 1) := by decide +kernel
theorem d_Mo_badAttributes_53 : decode prog_12_method_35_code 53 = .ok (.iload_n 3, 1) := by decide +kernel
theorem d_Mo_badAttributes_54 : decode prog_12_method_35_code 54 = .ok (.iconst 2, 1) := by decide +kernel
theorem d_Mo_badAttributes_55 : decode prog_12_method_35_code 55 = .ok (.iadd, 1) := by decide +kernel
theorem d_Mo_badAttributes_56 : decode prog_12_method_35_code 56 = .ok (.aload_n 0, 1) := by decide +kernel
theorem d_Mo_badAttributes_57 : decode prog_12_method_35_code 57 = .ok (.getfield 52, 3) := by decide +kernel
theorem d_Mo_badAttributes_60 : decode prog_12_method_35_code 60 = .ok (.iload_n 3, 1) := by decide +kernel
theorem d_Mo_badAttributes_61 : decode prog_12_method_35_code 61 = .ok (.iconst 1, 1) := by decide +kernel
theorem d_Mo_badAttributes_62 : decode prog_12_method_35_code 62 = .ok (.iadd, 1) := by decide +kernel
theorem d_Mo_badAttributes_63 : decode prog_12_method_35_code 63 = .ok (.iaload, 1) := by decide +kernel
theorem d_Mo_badAttributes_64 : decode prog_12_method_35_code 64 = .ok (.iadd, 1) := by decide +kernel
theorem d_Mo_badAttributes_65 : decode prog_12_method_35_code 65 = .ok (.istore_n 3, 1) := by decide +kernel
theorem d_Mo_badAttributes_66 : decode prog_12_method_35_code 66 = .ok (.goto (-43), 3) := by decide +kernel
theorem d_Mo_badAttributes_69 : decode prog_12_method_35_code 69 = .ok (.iload_n 1, 1) := by decide +kernel
theorem d_Mo_badAttributes_70 : decode prog_12_method_35_code 70 = .ok (.istore 4, 2) := by decide +kernel
theorem d_Mo_badAttributes_72 : decode prog_12_method_35_code 72 = .ok (.iload 4, 2) := by decide +kernel
theorem d_Mo_badAttributes_74 : decode prog_12_method_35_code 74 = .ok (.iload_n 2, 1) := by decide +kernel
theorem d_Mo_badAttributes_75 : decode prog_12_method_35_code 75 = .ok (.if_icmp .ge (152), 3) := by decide +kernel
theorem d_Mo_badAttributes_78 : decode prog_12_method_35_code 78 = .ok (.aload_n 0, 1) := by decide +kernel
theorem d_Mo_badAttributes_79 : decode prog_12_method_35_code 79 = .ok (.getfield 52, 3) := by decide +kernel
theorem d_Mo_badAttributes_82 : decode prog_12_method_35_code 82 = .ok (.iload 4, 2) := by decide +kernel
theorem d_Mo_badAttributes_84 : decode prog_12_method_35_code 84 = .ok (.iaload, 1) := by decide +kernel
theorem d_Mo_badAttributes_85 : decode prog_12_method_35_code 85 = .ok (.istore 5, 2) := by decide +kernel
theorem d_Mo_badAttributes_87 : decode prog_12_method_35_code 87 = .ok (.iload_n 1, 1) := by decide +kernel
theorem d_Mo_badAttributes_88 : decode prog_12_method_35_code 88 = .ok (.istore 6, 2) := by decide +kernel
theorem d_Mo_badAttributes_90 : decode prog_12_method_35_code 90 = .ok (.iload 6, 2) := by decide +kernel
theorem d_Mo_badAttributes_92 : decode prog_12_method_35_code 92 = .ok (.iload 4, 2) := by decide +kernel
theorem d_Mo_badAttributes_94 : decode prog_12_method_35_code 94 = .ok (.if_icmp .ge (36), 3) := by decide +kernel
theorem d_Mo_badAttributes_97 : decode prog_12_method_35_code 97 = .ok (.aload_n 0, 1) := by decide +kernel
theorem d_Mo_badAttributes_98 : decode prog_12_method_35_code 98 = .ok (.getfield 52, 3) := by decide +kernel
theorem d_Mo_badAttributes_101 : decode prog_12_method_35_code 101 = .ok (.iload 6, 2) := by decide +kernel
theorem d_Mo_badAttributes_103 : decode prog_12_method_35_code 103 = .ok (.iaload, 1) := by decide +kernel
theorem d_Mo_badAttributes_104 : decode prog_12_method_35_code 104 = .ok (.iload 5, 2) := by decide +kernel
theorem d_Mo_badAttributes_106 : decode prog_12_method_35_code 106 = .ok (.if_icmp .ne (5), 3) := by decide +kernel
theorem d_Mo_badAttributes_109 : decode prog_12_method_35_code 109 = .ok (.iconst 1, 1) := by decide +kernel
theorem d_Mo_badAttributes_110 : decode prog_12_method_35_code 110 = .ok (.ireturn, 1) := by decide +kernel
theorem d_Mo_badAttributes_111 : decode prog_12_method_35_code 111 = .ok (.iload 6, 2) := by decide +kernel
theorem d_Mo_badAttributes_113 : decode prog_12_method_35_code 113 = .ok (.iconst 2, 1) := by decide +kernel
theorem d_Mo_badAttributes_114 : decode prog_12_method_35_code 114 = .ok (.iadd, 1) := by decide +kernel
theorem d_Mo_badAttributes_115 : decode prog_12_method_35_code 115 = .ok (.aload_n 0, 1) := by decide +kernel
theorem d_Mo_badAttributes_116 : decode prog_12_method_35_code 116 = .ok (.getfield 52, 3) := by decide +kernel
theorem d_Mo_badAttributes_119 : decode prog_12_method_35_code 119 = .ok (.iload 6, 2) := by decide +kernel
theorem d_Mo_badAttributes_121 : decode prog_12_method_35_code 121 = .ok (.iconst 1, 1) := by decide +kernel
theorem d_Mo_badAttributes_122 : decode prog_12_method_35_code 122 = .ok (.iadd, 1) := by decide +kernel
theorem d_Mo_badAttributes_123 : decode prog_12_method_35_code 123 = .ok (.iaload, 1) := by decide +kernel
theorem d_Mo_badAttributes_124 : decode prog_12_method_35_code 124 = .ok (.iadd, 1) := by decide +kernel
theorem d_Mo_badAttributes_125 : decode prog_12_method_35_code 125 = .ok (.istore 6, 2) := by decide +kernel
theorem d_Mo_badAttributes_127 : decode prog_12_method_35_code 127 = .ok (.goto (-37), 3) := by decide +kernel
theorem d_Mo_badAttributes_130 : decode prog_12_method_35_code 130 = .ok (.iload 5, 2) := by decide +kernel
theorem d_Mo_badAttributes_132 : decode prog_12_method_35_code 132 = .ok (.sipush (128), 3) := by decide +kernel
theorem d_Mo_badAttributes_135 : decode prog_12_method_35_code 135 = .ok (.if_icmp .ge (13), 3) := by decide +kernel
theorem d_Mo_badAttributes_138 : decode prog_12_method_35_code 138 = .ok (.iload 5, 2) := by decide +kernel
theorem d_Mo_badAttributes_140 : decode prog_12_method_35_code 140 = .ok (.invokestatic 218, 3) := by decide +kernel
theorem d_Mo_badAttributes_143 : decode prog_12_method_35_code 143 = .ok (.ifCond .ne (5), 3) := by decide +kernel
theorem d_Mo_badAttributes_146 : decode prog_12_method_35_code 146 = .ok (.iconst 2, 1) := by decide +kernel
theorem d_Mo_badAttributes_147 : decode prog_12_method_35_code 147 = .ok (.ireturn, 1) := by decide +kernel
theorem d_Mo_badAttributes_148 : decode prog_12_method_35_code 148 = .ok (.iload 5, 2) := by decide +kernel
theorem d_Mo_badAttributes_150 : decode prog_12_method_35_code 150 = .ok (.invokestatic 218, 3) := by decide +kernel
theorem d_Mo_badAttributes_153 : decode prog_12_method_35_code 153 = .ok (.ifCond .eq (25), 3) := by decide +kernel
theorem d_Mo_badAttributes_156 : decode prog_12_method_35_code 156 = .ok (.aload_n 0, 1) := by decide +kernel
theorem d_Mo_badAttributes_157 : decode prog_12_method_35_code 157 = .ok (.iload 5, 2) := by decide +kernel
theorem d_Mo_badAttributes_159 : decode prog_12_method_35_code 159 = .ok (.iload 4, 2) := by decide +kernel
theorem d_Mo_badAttributes_161 : decode prog_12_method_35_code 161 = .ok (.iconst 2, 1) := by decide +kernel
theorem d_Mo_badAttributes_162 : decode prog_12_method_35_code 162 = .ok (.iadd, 1) := by decide +kernel
theorem d_Mo_badAttributes_163 : decode prog_12_method_35_code 163 = .ok (.aload_n 0, 1) := by decide +kernel
theorem d_Mo_badAttributes_164 : decode prog_12_method_35_code 164 = .ok (.getfield 52, 3) := by decide +kernel
theorem d_Mo_badAttributes_167 : decode prog_12_method_35_code 167 = .ok (.iload 4, 2) := by decide +kernel
theorem d_Mo_badAttributes_169 : decode prog_12_method_35_code 169 = .ok (.iconst 1, 1) := by decide +kernel
theorem d_Mo_badAttributes_170 : decode prog_12_method_35_code 170 = .ok (.iadd, 1) := by decide +kernel
theorem d_Mo_badAttributes_171 : decode prog_12_method_35_code 171 = .ok (.iaload, 1) := by decide +kernel
theorem d_Mo_badAttributes_172 : decode prog_12_method_35_code 172 = .ok (.invokevirtual 221, 3) := by decide +kernel
theorem d_Mo_badAttributes_175 : decode prog_12_method_35_code 175 = .ok (.goto (4), 3) := by decide +kernel
theorem d_Mo_badAttributes_178 : decode prog_12_method_35_code 178 = .ok (.iconst 0, 1) := by decide +kernel
theorem d_Mo_badAttributes_179 : decode prog_12_method_35_code 179 = .ok (.istore 6, 2) := by decide +kernel
theorem d_Mo_badAttributes_181 : decode prog_12_method_35_code 181 = .ok (.iload 6, 2) := by decide +kernel
theorem d_Mo_badAttributes_183 : decode prog_12_method_35_code 183 = .ok (.ifCond .le (6), 3) := by decide +kernel
theorem d_Mo_badAttributes_186 : decode prog_12_method_35_code 186 = .ok (.iload 6, 2) := by decide +kernel
theorem d_Mo_badAttributes_188 : decode prog_12_method_35_code 188 = .ok (.ireturn, 1) := by decide +kernel
theorem d_Mo_badAttributes_189 : decode prog_12_method_35_code 189 = .ok (.iload 5, 2) := by decide +kernel
theorem d_Mo_badAttributes_191 : decode prog_12_method_35_code 191 = .ok (.invokestatic 218, 3) := by decide +kernel
theorem d_Mo_badAttributes_194 : decode prog_12_method_35_code 194 = .ok (.ifCond .eq (14), 3) := by decide +kernel
theorem d_Mo_badAttributes_197 : decode prog_12_method_35_code 197 = .ok (.aload_n 0, 1) := by decide +kernel
theorem d_Mo_badAttributes_198 : decode prog_12_method_35_code 198 = .ok (.getfield 120, 3) := by decide +kernel
theorem d_Mo_badAttributes_201 : decode prog_12_method_35_code 201 = .ok (.iload 5, 2) := by decide +kernel
theorem d_Mo_badAttributes_203 : decode prog_12_method_35_code 203 = .ok (.iload 4, 2) := by decide +kernel
theorem d_Mo_badAttributes_205 : decode prog_12_method_35_code 205 = .ok (.iconst 1, 1) := by decide +kernel
theorem d_Mo_badAttributes_206 : decode prog_12_method_35_code 206 = .ok (.iadd, 1) := by decide +kernel
theorem d_Mo_badAttributes_207 : decode prog_12_method_35_code 207 = .ok (.iastore, 1) := by decide +kernel
theorem d_Mo_badAttributes_208 : decode prog_12_method_35_code 208 = .ok (.iload 4, 2) := by decide +kernel
theorem d_Mo_badAttributes_210 : decode prog_12_method_35_code 210 = .ok (.iconst 2, 1) := by decide +kernel
theorem d_Mo_badAttributes_211 : decode prog_12_method_35_code 211 = .ok (.iadd, 1) := by decide +kernel
theorem d_Mo_badAttributes_212 : decode prog_12_method_35_code 212 = .ok (.aload_n 0, 1) := by decide +kernel
theorem d_Mo_badAttributes_213 : decode prog_12_method_35_code 213 = .ok (.getfield 52, 3) := by decide +kernel
theorem d_Mo_badAttributes_216 : decode prog_12_method_35_code 216 = .ok (.iload 4, 2) := by decide +kernel
theorem d_Mo_badAttributes_218 : decode prog_12_method_35_code 218 = .ok (.iconst 1, 1) := by decide +kernel
theorem d_Mo_badAttributes_219 : decode prog_12_method_35_code 219 = .ok (.iadd, 1) := by decide +kernel
theorem d_Mo_badAttributes_220 : decode prog_12_method_35_code 220 = .ok (.iaload, 1) := by decide +kernel
theorem d_Mo_badAttributes_221 : decode prog_12_method_35_code 221 = .ok (.iadd, 1) := by decide +kernel
theorem d_Mo_badAttributes_222 : decode prog_12_method_35_code 222 = .ok (.istore 4, 2) := by decide +kernel
theorem d_Mo_badAttributes_224 : decode prog_12_method_35_code 224 = .ok (.goto (-152), 3) := by decide +kernel
theorem d_Mo_badAttributes_227 : decode prog_12_method_35_code 227 = .ok (.iconst 0, 1) := by decide +kernel
theorem d_Mo_badAttributes_228 : decode prog_12_method_35_code 228 = .ok (.ireturn, 1) := by decide +kernel
def B_Mo_badAttributes_208 (N : Nat → Nat) (K72 : Nat → Int32 → Int32 → Int32 → rs_Mem → Prop) (Q : Int32 → rs_Mem → Prop) (v0 : Nat) (x1 : Int32) (x2 : Int32) (x4 : Int32) (σ : rs_Mem) : Prop :=
  (vp_in (x4 + (1 : Int32)) (N (rs_R σ v0 15)) ∧ (∀ x53 : Int32, x53 = ((x4 + (2 : Int32)) + (rs_I σ (rs_R σ v0 15) (x4 + (1 : Int32)).toNatClampNeg)) → (K72 v0 x1 x2 x53 σ)))
def B_Mo_badAttributes_179 (N : Nat → Nat) (K72 : Nat → Int32 → Int32 → Int32 → rs_Mem → Prop) (Q : Int32 → rs_Mem → Prop) (v0 : Nat) (x1 : Int32) (x2 : Int32) (x4 : Int32) (x5 : Int32) (y0 : Int32) (σ : rs_Mem) : Prop :=
  ((y0 ≤ 0 → (F_Mo_isName N x5 σ (fun x52 σ51 => ((x52 = 0 → (B_Mo_badAttributes_208 N K72 Q v0 x1 x2 x4 σ51)) ∧ (¬ (x52 = 0) → (vp_in x5 (N (rs_R σ51 v0 39)) ∧ ∀ σ55 : rs_Mem, σ55 = rs_sI σ51 (rs_R σ51 v0 39) x5.toNatClampNeg (x4 + (1 : Int32)) → (B_Mo_badAttributes_208 N K72 Q v0 x1 x2 x4 σ55))))))) ∧ (¬ (y0 ≤ 0) → (Q y0 σ)))
def B_Mo_badAttributes_148 (N : Nat → Nat) (K72 : Nat → Int32 → Int32 → Int32 → rs_Mem → Prop) (Q : Int32 → rs_Mem → Prop) (v0 : Nat) (x1 : Int32) (x2 : Int32) (x4 : Int32) (x5 : Int32) (σ : rs_Mem) : Prop :=
  (F_Mo_isName N x5 σ (fun x52 σ51 => ((x52 = 0 → (B_Mo_badAttributes_179 N K72 Q v0 x1 x2 x4 x5 (0 : Int32) σ51)) ∧ (¬ (x52 = 0) → (vp_in (x4 + (1 : Int32)) (N (rs_R σ51 v0 15)) ∧ (F_Mo_badValue N v0 x5 (x4 + (2 : Int32)) (rs_I σ51 (rs_R σ51 v0 15) (x4 + (1 : Int32)).toNatClampNeg) σ51 (fun x56 σ55 => (B_Mo_badAttributes_179 N K72 Q v0 x1 x2 x4 x5 x56 σ55))))))))
def G_Mo_badAttributes_90 (N : Nat → Nat) (K72 : Nat → Int32 → Int32 → Int32 → rs_Mem → Prop) (Q : Int32 → rs_Mem → Prop) (K90 : Nat → Int32 → Int32 → Int32 → Int32 → Int32 → rs_Mem → Prop) (v0 : Nat) (x1 : Int32) (x2 : Int32) (x4 : Int32) (x5 : Int32) (x6 : Int32) (σ : rs_Mem) : Prop :=
  ((x4 ≤ x6 → (((128 : Int32) ≤ x5 → (B_Mo_badAttributes_148 N K72 Q v0 x1 x2 x4 x5 σ)) ∧ (¬ ((128 : Int32) ≤ x5) → (F_Mo_isName N x5 σ (fun x52 σ51 => ((¬ (x52 = 0) → (B_Mo_badAttributes_148 N K72 Q v0 x1 x2 x4 x5 σ51)) ∧ (x52 = 0 → (Q (2 : Int32) σ51)))))))) ∧ (¬ (x4 ≤ x6) → (vp_in x6 (N (rs_R σ v0 15)) ∧ ((¬ ((rs_I σ (rs_R σ v0 15) x6.toNatClampNeg) = x5) → (vp_in (x6 + (1 : Int32)) (N (rs_R σ v0 15)) ∧ (∀ x55 : Int32, x55 = ((x6 + (2 : Int32)) + (rs_I σ (rs_R σ v0 15) (x6 + (1 : Int32)).toNatClampNeg)) → (K90 v0 x1 x2 x4 x5 x55 σ)))) ∧ ((rs_I σ (rs_R σ v0 15) x6.toNatClampNeg) = x5 → (Q (1 : Int32) σ))))))
noncomputable def L_Mo_badAttributes_90 (N : Nat → Nat) (K72 : Nat → Int32 → Int32 → Int32 → rs_Mem → Prop) (Q : Int32 → rs_Mem → Prop) (n : Nat) : Nat → Int32 → Int32 → Int32 → Int32 → Int32 → rs_Mem → Prop := Nat.rec (motive := fun _ => Nat → Int32 → Int32 → Int32 → Int32 → Int32 → rs_Mem → Prop) (fun _ _ _ _ _ _ _ => False) (fun _ K => G_Mo_badAttributes_90 N K72 Q K) n
def G_Mo_badAttributes_72 (N : Nat → Nat) (Q : Int32 → rs_Mem → Prop) (K72 : Nat → Int32 → Int32 → Int32 → rs_Mem → Prop) (v0 : Nat) (x1 : Int32) (x2 : Int32) (x4 : Int32) (σ : rs_Mem) : Prop :=
  ((x2 ≤ x4 → (Q (0 : Int32) σ)) ∧ (¬ (x2 ≤ x4) → (vp_in x4 (N (rs_R σ v0 15)) ∧ (∀ x53 : Int32, x53 = (rs_I σ (rs_R σ v0 15) x4.toNatClampNeg) → (∃ n : Nat, L_Mo_badAttributes_90 N K72 Q n v0 x1 x2 x4 x53 x1 σ)))))
noncomputable def L_Mo_badAttributes_72 (N : Nat → Nat) (Q : Int32 → rs_Mem → Prop) (n : Nat) : Nat → Int32 → Int32 → Int32 → rs_Mem → Prop := Nat.rec (motive := fun _ => Nat → Int32 → Int32 → Int32 → rs_Mem → Prop) (fun _ _ _ _ _ => False) (fun _ K => G_Mo_badAttributes_72 N Q K) n
def G_Mo_badAttributes_23 (N : Nat → Nat) (Q : Int32 → rs_Mem → Prop) (K23 : Nat → Int32 → Int32 → Int32 → rs_Mem → Prop) (v0 : Nat) (x1 : Int32) (x2 : Int32) (x3 : Int32) (σ : rs_Mem) : Prop :=
  ((x2 ≤ x3 → (∃ n : Nat, L_Mo_badAttributes_72 N Q n v0 x1 x2 x1 σ)) ∧ (¬ (x2 ≤ x3) → ((x2 < (x3 + (2 : Int32)) → (Q (1 : Int32) σ)) ∧ (¬ (x2 < (x3 + (2 : Int32))) → (vp_in (x3 + (1 : Int32)) (N (rs_R σ v0 15)) ∧ ((((x3 + (2 : Int32)) + (rs_I σ (rs_R σ v0 15) (x3 + (1 : Int32)).toNatClampNeg)) ≤ x2 → (vp_in (x3 + (1 : Int32)) (N (rs_R σ v0 15)) ∧ (∀ x55 : Int32, x55 = ((x3 + (2 : Int32)) + (rs_I σ (rs_R σ v0 15) (x3 + (1 : Int32)).toNatClampNeg)) → (K23 v0 x1 x2 x55 σ)))) ∧ (¬ (((x3 + (2 : Int32)) + (rs_I σ (rs_R σ v0 15) (x3 + (1 : Int32)).toNatClampNeg)) ≤ x2) → (Q (1 : Int32) σ))))))))
noncomputable def L_Mo_badAttributes_23 (N : Nat → Nat) (Q : Int32 → rs_Mem → Prop) (n : Nat) : Nat → Int32 → Int32 → Int32 → rs_Mem → Prop := Nat.rec (motive := fun _ => Nat → Int32 → Int32 → Int32 → rs_Mem → Prop) (fun _ _ _ _ _ => False) (fun _ K => G_Mo_badAttributes_23 N Q K) n
def G_Mo_badAttributes_2 (N : Nat → Nat) (Q : Int32 → rs_Mem → Prop) (K2 : Nat → Int32 → Int32 → Int32 → rs_Mem → Prop) (v0 : Nat) (x1 : Int32) (x2 : Int32) (x3 : Int32) (σ : rs_Mem) : Prop :=
  (((11 : Int32) ≤ x3 → (∃ n : Nat, L_Mo_badAttributes_23 N Q n v0 x1 x2 x1 σ)) ∧ (¬ ((11 : Int32) ≤ x3) → (vp_in x3 (N (rs_R σ v0 39)) ∧ ∀ σ53 : rs_Mem, σ53 = rs_sI σ (rs_R σ v0 39) x3.toNatClampNeg (-1 : Int32) → (∀ x54 : Int32, x54 = x3 + (1 : Int32) → (K2 v0 x1 x2 x54 σ53)))))
noncomputable def L_Mo_badAttributes_2 (N : Nat → Nat) (Q : Int32 → rs_Mem → Prop) (n : Nat) : Nat → Int32 → Int32 → Int32 → rs_Mem → Prop := Nat.rec (motive := fun _ => Nat → Int32 → Int32 → Int32 → rs_Mem → Prop) (fun _ _ _ _ _ => False) (fun _ K => G_Mo_badAttributes_2 N Q K) n
def F_Mo_badAttributes (N : Nat → Nat) (v0 : Nat) (x1 : Int32) (x2 : Int32) (σ : rs_Mem) (Q : Int32 → rs_Mem → Prop) : Prop :=
  (∃ n : Nat, L_Mo_badAttributes_2 N Q n v0 x1 x2 (0 : Int32) σ)
set_option maxRecDepth 20000 in
theorem JB_Mo_badAttributes_208 {p : Program} {l : Launch} {e : Env} {s : State} {m : MethodId} {args : Array Value} {below : List Frame} {meth : Method} {c : Code} {G : rs_G} {Bm : Nat} {S : rs_Shp} {K72 : Nat → Int32 → Int32 → Int32 → rs_Mem → Prop} {Q : Int32 → rs_Mem → Prop} (C : rs_C "RouteSpeakerModel" prog_12_method_35_code 7 (some .int) G p s m meth c args) (hK72 : ∀ (v0 : Nat) (x1 : Int32) (x2 : Int32) (x4 : Int32) (σ : rs_Mem) (H : Heap) (locs : List Loc) (ls : Array Slot), rs_Ok S 11 v0 → rs_H G Bm S σ H → rs_T S σ → va_S (rs_A Bm) s.heap H locs → lv_has ls 7 [(0, .ref (Bm + v0)), (1, .int x1), (2, .int x2), (4, .int x4)] → K72 v0 x1 x2 x4 σ → W p l e { frames := 2, cells := 0, slots := 0, locals := 45 } s m args below meth c H locs 0 0 (MQ below (rs_Qi G Bm S Q) args s 0 0 (rs_A Bm)) (F0 m 72 ls [])) (v0 : Nat) (x1 : Int32) (x2 : Int32) (x4 : Int32) (σ : rs_Mem) (H : Heap) (locs : List Loc) (ls : Array Slot) (h_v0 : rs_Ok S 11 v0) (hH : rs_H G Bm S σ H) (hT : rs_T S σ) (hS : va_S (rs_A Bm) s.heap H locs) (hl : lv_has ls 7 [(0, .ref (Bm + v0)), (1, .int x1), (2, .int x2), (4, .int x4)]) (hF : B_Mo_badAttributes_208 S.2.2 K72 Q v0 x1 x2 x4 σ) :
    W p l e { frames := 2, cells := 0, slots := 0, locals := 45 } s m args below meth c H locs 0 0 (MQ below (rs_Qi G Bm S Q) args s 0 0 (rs_A Bm)) (F0 m 208 ls []) := by
  have hx := C.1
  have hb := C.2.1
  unfold B_Mo_badAttributes_208 at hF
  refine lv_iload hx hb d_Mo_badAttributes_208 (lv_at hl 3 rfl) ?_
  refine lv_iconst hx hb d_Mo_badAttributes_210 ki_2 ?_
  refine lv_iadd hx hb d_Mo_badAttributes_211 ?_
  refine lv_aload_n hx hb d_Mo_badAttributes_212 rfl (lv_at hl 0 rfl) ?_
  refine rs_getR C hH hT h_v0 fk_11_15 tw_914 d_Mo_badAttributes_213 (fun h51 => ?_)
  refine lv_iload hx hb d_Mo_badAttributes_216 (lv_at hl 3 rfl) ?_
  refine lv_iconst hx hb d_Mo_badAttributes_218 ki_1 ?_
  refine lv_iadd hx hb d_Mo_badAttributes_219 ?_
  obtain ⟨g52, hF⟩ := hF
  refine rs_iald C hH h51 g52 d_Mo_badAttributes_220 ?_
  refine lv_iadd hx hb d_Mo_badAttributes_221 ?_
  refine lv_topi (fun x53 ex53 => ?_)
  replace hF := hF x53 ex53
  refine lv_istore hx hb d_Mo_badAttributes_222 hl (by decide) (lv' := [(4, .int x53), (0, .ref (Bm + v0)), (1, .int x1), (2, .int x2)]) rfl (fun ls hl => ?_)
  refine lv_goto hx hb d_Mo_badAttributes_224 (tgt := 72) rfl ?_
  exact hK72 v0 x1 x2 x53 σ _ _ _ h_v0 hH hT hS (lv_sub hl [1, 2, 3, 0] rfl) hF
set_option maxRecDepth 20000 in
theorem JB_Mo_badAttributes_179 {p : Program} {l : Launch} {e : Env} {s : State} {m : MethodId} {args : Array Value} {below : List Frame} {meth : Method} {c : Code} {G : rs_G} {Bm : Nat} {S : rs_Shp} {K72 : Nat → Int32 → Int32 → Int32 → rs_Mem → Prop} {Q : Int32 → rs_Mem → Prop} (C : rs_C "RouteSpeakerModel" prog_12_method_35_code 7 (some .int) G p s m meth c args) (hK72 : ∀ (v0 : Nat) (x1 : Int32) (x2 : Int32) (x4 : Int32) (σ : rs_Mem) (H : Heap) (locs : List Loc) (ls : Array Slot), rs_Ok S 11 v0 → rs_H G Bm S σ H → rs_T S σ → va_S (rs_A Bm) s.heap H locs → lv_has ls 7 [(0, .ref (Bm + v0)), (1, .int x1), (2, .int x2), (4, .int x4)] → K72 v0 x1 x2 x4 σ → W p l e { frames := 2, cells := 0, slots := 0, locals := 45 } s m args below meth c H locs 0 0 (MQ below (rs_Qi G Bm S Q) args s 0 0 (rs_A Bm)) (F0 m 72 ls [])) (v0 : Nat) (x1 : Int32) (x2 : Int32) (x4 : Int32) (x5 : Int32) (y0 : Int32) (σ : rs_Mem) (H : Heap) (locs : List Loc) (ls : Array Slot) (h_v0 : rs_Ok S 11 v0) (hH : rs_H G Bm S σ H) (hT : rs_T S σ) (hS : va_S (rs_A Bm) s.heap H locs) (hl : lv_has ls 7 [(0, .ref (Bm + v0)), (1, .int x1), (2, .int x2), (4, .int x4), (5, .int x5)]) (hF : B_Mo_badAttributes_179 S.2.2 K72 Q v0 x1 x2 x4 x5 y0 σ) :
    W p l e { frames := 2, cells := 0, slots := 0, locals := 45 } s m args below meth c H locs 0 0 (MQ below (rs_Qi G Bm S Q) args s 0 0 (rs_A Bm)) (F0 m 179 ls [.int y0]) := by
  have hx := C.1
  have hb := C.2.1
  unfold B_Mo_badAttributes_179 at hF
  refine lv_istore hx hb d_Mo_badAttributes_179 hl (by decide) (lv' := [(6, .int y0), (0, .ref (Bm + v0)), (1, .int x1), (2, .int x2), (4, .int x4), (5, .int x5)]) rfl (fun ls hl => ?_)
  refine lv_iload hx hb d_Mo_badAttributes_181 (lv_at hl 0 rfl) ?_
  refine lv_if_le hx hb d_Mo_badAttributes_183 (tgt := 189) rfl (fun hc => ?_) (fun hc => ?_)
  · replace hF := hF.1 hc
    refine lv_iload hx hb d_Mo_badAttributes_189 (lv_at hl 5 rfl) ?_
    refine rs_ci (rs_runS C hH hT hl (J_Mo_isName l hF) rc_Mo_isName tw_1208 tw_1209 rfl ⟨⟨rfl, rfl⟩, by decide, by decide, by decide⟩ (Nat.le_of_ble_eq_true rfl) rfl d_Mo_badAttributes_191) hS (fun x52 σ51 H locs hH hT hS hF => ?_)
    refine lv_if_eq hx hb d_Mo_badAttributes_194 (tgt := 208) rfl (fun hc => ?_) (fun hc => ?_)
    · replace hF := hF.1 hc
      exact JB_Mo_badAttributes_208 C hK72 v0 x1 x2 x4 σ51 _ _ _ h_v0 hH hT hS (lv_sub hl [1, 2, 3, 4] rfl) hF
    · replace hF := hF.2 hc
      refine lv_aload_n hx hb d_Mo_badAttributes_197 rfl (lv_at hl 1 rfl) ?_
      refine rs_getR C hH hT h_v0 fk_11_39 tw_938 d_Mo_badAttributes_198 (fun h53 => ?_)
      refine lv_iload hx hb d_Mo_badAttributes_201 (lv_at hl 5 rfl) ?_
      refine lv_iload hx hb d_Mo_badAttributes_203 (lv_at hl 4 rfl) ?_
      refine lv_iconst hx hb d_Mo_badAttributes_205 ki_1 ?_
      refine lv_iadd hx hb d_Mo_badAttributes_206 ?_
      obtain ⟨g54, hF⟩ := hF
      refine rs_iast C hH hT hS h53 g54 d_Mo_badAttributes_207 (fun σ55 H locs eσ55 hH hT hS => ?_)
      replace hF := hF σ55 eσ55
      exact JB_Mo_badAttributes_208 C hK72 v0 x1 x2 x4 σ55 _ _ _ h_v0 hH hT hS (lv_sub hl [1, 2, 3, 4] rfl) hF
  · replace hF := hF.2 hc
    refine lv_iload hx hb d_Mo_badAttributes_186 (lv_at hl 0 rfl) ?_
    exact rs_iret C hH hT hS hF d_Mo_badAttributes_188
set_option maxRecDepth 20000 in
theorem JB_Mo_badAttributes_148 {p : Program} {l : Launch} {e : Env} {s : State} {m : MethodId} {args : Array Value} {below : List Frame} {meth : Method} {c : Code} {G : rs_G} {Bm : Nat} {S : rs_Shp} {K72 : Nat → Int32 → Int32 → Int32 → rs_Mem → Prop} {Q : Int32 → rs_Mem → Prop} (C : rs_C "RouteSpeakerModel" prog_12_method_35_code 7 (some .int) G p s m meth c args) (hK72 : ∀ (v0 : Nat) (x1 : Int32) (x2 : Int32) (x4 : Int32) (σ : rs_Mem) (H : Heap) (locs : List Loc) (ls : Array Slot), rs_Ok S 11 v0 → rs_H G Bm S σ H → rs_T S σ → va_S (rs_A Bm) s.heap H locs → lv_has ls 7 [(0, .ref (Bm + v0)), (1, .int x1), (2, .int x2), (4, .int x4)] → K72 v0 x1 x2 x4 σ → W p l e { frames := 2, cells := 0, slots := 0, locals := 45 } s m args below meth c H locs 0 0 (MQ below (rs_Qi G Bm S Q) args s 0 0 (rs_A Bm)) (F0 m 72 ls [])) (v0 : Nat) (x1 : Int32) (x2 : Int32) (x4 : Int32) (x5 : Int32) (σ : rs_Mem) (H : Heap) (locs : List Loc) (ls : Array Slot) (h_v0 : rs_Ok S 11 v0) (hH : rs_H G Bm S σ H) (hT : rs_T S σ) (hS : va_S (rs_A Bm) s.heap H locs) (hl : lv_has ls 7 [(0, .ref (Bm + v0)), (1, .int x1), (2, .int x2), (4, .int x4), (5, .int x5)]) (hF : B_Mo_badAttributes_148 S.2.2 K72 Q v0 x1 x2 x4 x5 σ) :
    W p l e { frames := 2, cells := 0, slots := 0, locals := 45 } s m args below meth c H locs 0 0 (MQ below (rs_Qi G Bm S Q) args s 0 0 (rs_A Bm)) (F0 m 148 ls []) := by
  have hx := C.1
  have hb := C.2.1
  unfold B_Mo_badAttributes_148 at hF
  refine lv_iload hx hb d_Mo_badAttributes_148 (lv_at hl 4 rfl) ?_
  refine rs_ci (rs_runS C hH hT hl (J_Mo_isName l hF) rc_Mo_isName tw_1208 tw_1209 rfl ⟨⟨rfl, rfl⟩, by decide, by decide, by decide⟩ (Nat.le_of_ble_eq_true rfl) rfl d_Mo_badAttributes_150) hS (fun x52 σ51 H locs hH hT hS hF => ?_)
  refine lv_if_eq hx hb d_Mo_badAttributes_153 (tgt := 178) rfl (fun hc => ?_) (fun hc => ?_)
  · replace hF := hF.1 hc
    refine lv_iconst hx hb d_Mo_badAttributes_178 ki_0 ?_
    exact JB_Mo_badAttributes_179 C hK72 v0 x1 x2 x4 x5 (0 : Int32) σ51 _ _ _ h_v0 hH hT hS (lv_sub hl [0, 1, 2, 3, 4] rfl) hF
  · replace hF := hF.2 hc
    refine lv_aload_n hx hb d_Mo_badAttributes_156 rfl (lv_at hl 0 rfl) ?_
    refine lv_iload hx hb d_Mo_badAttributes_157 (lv_at hl 4 rfl) ?_
    refine lv_iload hx hb d_Mo_badAttributes_159 (lv_at hl 3 rfl) ?_
    refine lv_iconst hx hb d_Mo_badAttributes_161 ki_2 ?_
    refine lv_iadd hx hb d_Mo_badAttributes_162 ?_
    refine lv_aload_n hx hb d_Mo_badAttributes_163 rfl (lv_at hl 0 rfl) ?_
    refine rs_getR C hH hT h_v0 fk_11_15 tw_914 d_Mo_badAttributes_164 (fun h53 => ?_)
    refine lv_iload hx hb d_Mo_badAttributes_167 (lv_at hl 3 rfl) ?_
    refine lv_iconst hx hb d_Mo_badAttributes_169 ki_1 ?_
    refine lv_iadd hx hb d_Mo_badAttributes_170 ?_
    obtain ⟨g54, hF⟩ := hF
    refine rs_iald C hH h53 g54 d_Mo_badAttributes_171 ?_
    refine rs_ci (rs_runV C hH hT hl (J_Mo_badValue l h_v0 hF) rc_Mo_badValue tw_1211 tw_1213 ts_66 h_v0 ⟨rfl, by decide, by decide⟩ rfl ⟨⟨rfl, rfl⟩, by decide, by decide, by decide⟩ (Nat.le_of_ble_eq_true rfl) rfl d_Mo_badAttributes_172) hS (fun x56 σ55 H locs hH hT hS hF => ?_)
    refine lv_goto hx hb d_Mo_badAttributes_175 (tgt := 179) rfl ?_
    exact JB_Mo_badAttributes_179 C hK72 v0 x1 x2 x4 x5 x56 σ55 _ _ _ h_v0 hH hT hS (lv_sub hl [0, 1, 2, 3, 4] rfl) hF
set_option maxRecDepth 20000 in
theorem JL_Mo_badAttributes_90 {p : Program} {l : Launch} {e : Env} {s : State} {m : MethodId} {args : Array Value} {below : List Frame} {meth : Method} {c : Code} {G : rs_G} {Bm : Nat} {S : rs_Shp} {K72 : Nat → Int32 → Int32 → Int32 → rs_Mem → Prop} {Q : Int32 → rs_Mem → Prop} (C : rs_C "RouteSpeakerModel" prog_12_method_35_code 7 (some .int) G p s m meth c args) (hK72 : ∀ (v0 : Nat) (x1 : Int32) (x2 : Int32) (x4 : Int32) (σ : rs_Mem) (H : Heap) (locs : List Loc) (ls : Array Slot), rs_Ok S 11 v0 → rs_H G Bm S σ H → rs_T S σ → va_S (rs_A Bm) s.heap H locs → lv_has ls 7 [(0, .ref (Bm + v0)), (1, .int x1), (2, .int x2), (4, .int x4)] → K72 v0 x1 x2 x4 σ → W p l e { frames := 2, cells := 0, slots := 0, locals := 45 } s m args below meth c H locs 0 0 (MQ below (rs_Qi G Bm S Q) args s 0 0 (rs_A Bm)) (F0 m 72 ls [])) : ∀ n : Nat, ∀ (v0 : Nat) (x1 : Int32) (x2 : Int32) (x4 : Int32) (x5 : Int32) (x6 : Int32) (σ : rs_Mem) (H : Heap) (locs : List Loc) (ls : Array Slot), rs_Ok S 11 v0 → rs_H G Bm S σ H → rs_T S σ → va_S (rs_A Bm) s.heap H locs → lv_has ls 7 [(0, .ref (Bm + v0)), (1, .int x1), (2, .int x2), (4, .int x4), (5, .int x5), (6, .int x6)] → (L_Mo_badAttributes_90 S.2.2 K72 Q n) v0 x1 x2 x4 x5 x6 σ → W p l e { frames := 2, cells := 0, slots := 0, locals := 45 } s m args below meth c H locs 0 0 (MQ below (rs_Qi G Bm S Q) args s 0 0 (rs_A Bm)) (F0 m 90 ls []) := by
  have hx := C.1
  have hb := C.2.1
  intro n
  induction n with
  | zero => intros; rename_i hF; exact hF.elim
  | succ n hK90 =>
    intro v0 x1 x2 x4 x5 x6 σ H locs ls h_v0 hH hT hS hl hF
    replace hF : G_Mo_badAttributes_90 S.2.2 K72 Q (L_Mo_badAttributes_90 S.2.2 K72 Q n) v0 x1 x2 x4 x5 x6 σ := hF
    unfold G_Mo_badAttributes_90 at hF
    refine lv_iload hx hb d_Mo_badAttributes_90 (lv_at hl 5 rfl) ?_
    refine lv_iload hx hb d_Mo_badAttributes_92 (lv_at hl 3 rfl) ?_
    refine lv_icmp_ge hx hb d_Mo_badAttributes_94 (tgt := 130) rfl (fun hc => ?_) (fun hc => ?_)
    · replace hF := hF.1 hc
      refine lv_iload hx hb d_Mo_badAttributes_130 (lv_at hl 4 rfl) ?_
      refine lv_sipush hx hb d_Mo_badAttributes_132 ks_128 ?_
      refine lv_icmp_ge hx hb d_Mo_badAttributes_135 (tgt := 148) rfl (fun hc => ?_) (fun hc => ?_)
      · replace hF := hF.1 hc
        exact JB_Mo_badAttributes_148 C hK72 v0 x1 x2 x4 x5 σ _ _ _ h_v0 hH hT hS (lv_sub hl [0, 1, 2, 3, 4] rfl) hF
      · replace hF := hF.2 hc
        refine lv_iload hx hb d_Mo_badAttributes_138 (lv_at hl 4 rfl) ?_
        refine rs_ci (rs_runS C hH hT hl (J_Mo_isName l hF) rc_Mo_isName tw_1208 tw_1209 rfl ⟨⟨rfl, rfl⟩, by decide, by decide, by decide⟩ (Nat.le_of_ble_eq_true rfl) rfl d_Mo_badAttributes_140) hS (fun x52 σ51 H locs hH hT hS hF => ?_)
        refine lv_if_ne hx hb d_Mo_badAttributes_143 (tgt := 148) rfl (fun hc => ?_) (fun hc => ?_)
        · replace hF := hF.1 hc
          exact JB_Mo_badAttributes_148 C hK72 v0 x1 x2 x4 x5 σ51 _ _ _ h_v0 hH hT hS (lv_sub hl [0, 1, 2, 3, 4] rfl) hF
        · replace hF := hF.2 hc
          refine lv_iconst hx hb d_Mo_badAttributes_146 ki_2 ?_
          exact rs_iret C hH hT hS hF d_Mo_badAttributes_147
    · replace hF := hF.2 hc
      refine lv_aload_n hx hb d_Mo_badAttributes_97 rfl (lv_at hl 0 rfl) ?_
      refine rs_getR C hH hT h_v0 fk_11_15 tw_914 d_Mo_badAttributes_98 (fun h51 => ?_)
      refine lv_iload hx hb d_Mo_badAttributes_101 (lv_at hl 5 rfl) ?_
      obtain ⟨g52, hF⟩ := hF
      refine rs_iald C hH h51 g52 d_Mo_badAttributes_103 ?_
      refine lv_iload hx hb d_Mo_badAttributes_104 (lv_at hl 4 rfl) ?_
      refine lv_icmp_ne hx hb d_Mo_badAttributes_106 (tgt := 111) rfl (fun hc => ?_) (fun hc => ?_)
      · replace hF := hF.1 hc
        refine lv_iload hx hb d_Mo_badAttributes_111 (lv_at hl 5 rfl) ?_
        refine lv_iconst hx hb d_Mo_badAttributes_113 ki_2 ?_
        refine lv_iadd hx hb d_Mo_badAttributes_114 ?_
        refine lv_aload_n hx hb d_Mo_badAttributes_115 rfl (lv_at hl 0 rfl) ?_
        refine rs_getR C hH hT h_v0 fk_11_15 tw_914 d_Mo_badAttributes_116 (fun h53 => ?_)
        refine lv_iload hx hb d_Mo_badAttributes_119 (lv_at hl 5 rfl) ?_
        refine lv_iconst hx hb d_Mo_badAttributes_121 ki_1 ?_
        refine lv_iadd hx hb d_Mo_badAttributes_122 ?_
        obtain ⟨g54, hF⟩ := hF
        refine rs_iald C hH h53 g54 d_Mo_badAttributes_123 ?_
        refine lv_iadd hx hb d_Mo_badAttributes_124 ?_
        refine lv_topi (fun x55 ex55 => ?_)
        replace hF := hF x55 ex55
        refine lv_istore hx hb d_Mo_badAttributes_125 hl (by decide) (lv' := [(6, .int x55), (0, .ref (Bm + v0)), (1, .int x1), (2, .int x2), (4, .int x4), (5, .int x5)]) rfl (fun ls hl => ?_)
        refine lv_goto hx hb d_Mo_badAttributes_127 (tgt := 90) rfl ?_
        exact hK90 v0 x1 x2 x4 x5 x55 σ _ _ _ h_v0 hH hT hS (lv_sub hl [1, 2, 3, 4, 5, 0] rfl) hF
      · replace hF := hF.2 hc
        refine lv_iconst hx hb d_Mo_badAttributes_109 ki_1 ?_
        exact rs_iret C hH hT hS hF d_Mo_badAttributes_110
set_option maxRecDepth 20000 in
theorem JL_Mo_badAttributes_72 {p : Program} {l : Launch} {e : Env} {s : State} {m : MethodId} {args : Array Value} {below : List Frame} {meth : Method} {c : Code} {G : rs_G} {Bm : Nat} {S : rs_Shp} {Q : Int32 → rs_Mem → Prop} (C : rs_C "RouteSpeakerModel" prog_12_method_35_code 7 (some .int) G p s m meth c args) : ∀ n : Nat, ∀ (v0 : Nat) (x1 : Int32) (x2 : Int32) (x4 : Int32) (σ : rs_Mem) (H : Heap) (locs : List Loc) (ls : Array Slot), rs_Ok S 11 v0 → rs_H G Bm S σ H → rs_T S σ → va_S (rs_A Bm) s.heap H locs → lv_has ls 7 [(0, .ref (Bm + v0)), (1, .int x1), (2, .int x2), (4, .int x4)] → (L_Mo_badAttributes_72 S.2.2 Q n) v0 x1 x2 x4 σ → W p l e { frames := 2, cells := 0, slots := 0, locals := 45 } s m args below meth c H locs 0 0 (MQ below (rs_Qi G Bm S Q) args s 0 0 (rs_A Bm)) (F0 m 72 ls []) := by
  have hx := C.1
  have hb := C.2.1
  intro n
  induction n with
  | zero => intros; rename_i hF; exact hF.elim
  | succ n hK72 =>
    intro v0 x1 x2 x4 σ H locs ls h_v0 hH hT hS hl hF
    replace hF : G_Mo_badAttributes_72 S.2.2 Q (L_Mo_badAttributes_72 S.2.2 Q n) v0 x1 x2 x4 σ := hF
    unfold G_Mo_badAttributes_72 at hF
    refine lv_iload hx hb d_Mo_badAttributes_72 (lv_at hl 3 rfl) ?_
    refine lv_iload_n hx hb d_Mo_badAttributes_74 rfl (lv_at hl 2 rfl) ?_
    refine lv_icmp_ge hx hb d_Mo_badAttributes_75 (tgt := 227) rfl (fun hc => ?_) (fun hc => ?_)
    · replace hF := hF.1 hc
      refine lv_iconst hx hb d_Mo_badAttributes_227 ki_0 ?_
      exact rs_iret C hH hT hS hF d_Mo_badAttributes_228
    · replace hF := hF.2 hc
      refine lv_aload_n hx hb d_Mo_badAttributes_78 rfl (lv_at hl 0 rfl) ?_
      refine rs_getR C hH hT h_v0 fk_11_15 tw_914 d_Mo_badAttributes_79 (fun h51 => ?_)
      refine lv_iload hx hb d_Mo_badAttributes_82 (lv_at hl 3 rfl) ?_
      obtain ⟨g52, hF⟩ := hF
      refine rs_iald C hH h51 g52 d_Mo_badAttributes_84 ?_
      refine lv_topi (fun x53 ex53 => ?_)
      replace hF := hF x53 ex53
      refine lv_istore hx hb d_Mo_badAttributes_85 hl (by decide) (lv' := [(5, .int x53), (0, .ref (Bm + v0)), (1, .int x1), (2, .int x2), (4, .int x4)]) rfl (fun ls hl => ?_)
      refine lv_iload_n hx hb d_Mo_badAttributes_87 rfl (lv_at hl 2 rfl) ?_
      refine lv_istore hx hb d_Mo_badAttributes_88 hl (by decide) (lv' := [(6, .int x1), (5, .int x53), (0, .ref (Bm + v0)), (1, .int x1), (2, .int x2), (4, .int x4)]) rfl (fun ls hl => ?_)
      obtain ⟨n, hF⟩ := hF
      exact JL_Mo_badAttributes_90 C hK72 n v0 x1 x2 x4 x53 x1 σ _ _ _ h_v0 hH hT hS (lv_sub hl [2, 3, 4, 5, 1, 0] rfl) hF
set_option maxRecDepth 20000 in
theorem JL_Mo_badAttributes_23 {p : Program} {l : Launch} {e : Env} {s : State} {m : MethodId} {args : Array Value} {below : List Frame} {meth : Method} {c : Code} {G : rs_G} {Bm : Nat} {S : rs_Shp} {Q : Int32 → rs_Mem → Prop} (C : rs_C "RouteSpeakerModel" prog_12_method_35_code 7 (some .int) G p s m meth c args) : ∀ n : Nat, ∀ (v0 : Nat) (x1 : Int32) (x2 : Int32) (x3 : Int32) (σ : rs_Mem) (H : Heap) (locs : List Loc) (ls : Array Slot), rs_Ok S 11 v0 → rs_H G Bm S σ H → rs_T S σ → va_S (rs_A Bm) s.heap H locs → lv_has ls 7 [(0, .ref (Bm + v0)), (1, .int x1), (2, .int x2), (3, .int x3)] → (L_Mo_badAttributes_23 S.2.2 Q n) v0 x1 x2 x3 σ → W p l e { frames := 2, cells := 0, slots := 0, locals := 45 } s m args below meth c H locs 0 0 (MQ below (rs_Qi G Bm S Q) args s 0 0 (rs_A Bm)) (F0 m 23 ls []) := by
  have hx := C.1
  have hb := C.2.1
  intro n
  induction n with
  | zero => intros; rename_i hF; exact hF.elim
  | succ n hK23 =>
    intro v0 x1 x2 x3 σ H locs ls h_v0 hH hT hS hl hF
    replace hF : G_Mo_badAttributes_23 S.2.2 Q (L_Mo_badAttributes_23 S.2.2 Q n) v0 x1 x2 x3 σ := hF
    unfold G_Mo_badAttributes_23 at hF
    refine lv_iload_n hx hb d_Mo_badAttributes_23 rfl (lv_at hl 3 rfl) ?_
    refine lv_iload_n hx hb d_Mo_badAttributes_24 rfl (lv_at hl 2 rfl) ?_
    refine lv_icmp_ge hx hb d_Mo_badAttributes_25 (tgt := 69) rfl (fun hc => ?_) (fun hc => ?_)
    · replace hF := hF.1 hc
      refine lv_iload_n hx hb d_Mo_badAttributes_69 rfl (lv_at hl 1 rfl) ?_
      refine lv_istore hx hb d_Mo_badAttributes_70 hl (by decide) (lv' := [(4, .int x1), (0, .ref (Bm + v0)), (1, .int x1), (2, .int x2), (3, .int x3)]) rfl (fun ls hl => ?_)
      obtain ⟨n, hF⟩ := hF
      exact JL_Mo_badAttributes_72 C n v0 x1 x2 x1 σ _ _ _ h_v0 hH hT hS (lv_sub hl [1, 2, 3, 0] rfl) hF
    · replace hF := hF.2 hc
      refine lv_iload_n hx hb d_Mo_badAttributes_28 rfl (lv_at hl 3 rfl) ?_
      refine lv_iconst hx hb d_Mo_badAttributes_29 ki_2 ?_
      refine lv_iadd hx hb d_Mo_badAttributes_30 ?_
      refine lv_iload_n hx hb d_Mo_badAttributes_31 rfl (lv_at hl 2 rfl) ?_
      refine lv_icmp_gt hx hb d_Mo_badAttributes_32 (tgt := 51) rfl (fun hc => ?_) (fun hc => ?_)
      · replace hF := hF.1 hc
        refine lv_iconst hx hb d_Mo_badAttributes_51 ki_1 ?_
        exact rs_iret C hH hT hS hF d_Mo_badAttributes_52
      · replace hF := hF.2 hc
        refine lv_iload_n hx hb d_Mo_badAttributes_35 rfl (lv_at hl 3 rfl) ?_
        refine lv_iconst hx hb d_Mo_badAttributes_36 ki_2 ?_
        refine lv_iadd hx hb d_Mo_badAttributes_37 ?_
        refine lv_aload_n hx hb d_Mo_badAttributes_38 rfl (lv_at hl 0 rfl) ?_
        refine rs_getR C hH hT h_v0 fk_11_15 tw_914 d_Mo_badAttributes_39 (fun h51 => ?_)
        refine lv_iload_n hx hb d_Mo_badAttributes_42 rfl (lv_at hl 3 rfl) ?_
        refine lv_iconst hx hb d_Mo_badAttributes_43 ki_1 ?_
        refine lv_iadd hx hb d_Mo_badAttributes_44 ?_
        obtain ⟨g52, hF⟩ := hF
        refine rs_iald C hH h51 g52 d_Mo_badAttributes_45 ?_
        refine lv_iadd hx hb d_Mo_badAttributes_46 ?_
        refine lv_iload_n hx hb d_Mo_badAttributes_47 rfl (lv_at hl 2 rfl) ?_
        refine lv_icmp_le hx hb d_Mo_badAttributes_48 (tgt := 53) rfl (fun hc => ?_) (fun hc => ?_)
        · replace hF := hF.1 hc
          refine lv_iload_n hx hb d_Mo_badAttributes_53 rfl (lv_at hl 3 rfl) ?_
          refine lv_iconst hx hb d_Mo_badAttributes_54 ki_2 ?_
          refine lv_iadd hx hb d_Mo_badAttributes_55 ?_
          refine lv_aload_n hx hb d_Mo_badAttributes_56 rfl (lv_at hl 0 rfl) ?_
          refine rs_getR C hH hT h_v0 fk_11_15 tw_914 d_Mo_badAttributes_57 (fun h53 => ?_)
          refine lv_iload_n hx hb d_Mo_badAttributes_60 rfl (lv_at hl 3 rfl) ?_
          refine lv_iconst hx hb d_Mo_badAttributes_61 ki_1 ?_
          refine lv_iadd hx hb d_Mo_badAttributes_62 ?_
          obtain ⟨g54, hF⟩ := hF
          refine rs_iald C hH h53 g54 d_Mo_badAttributes_63 ?_
          refine lv_iadd hx hb d_Mo_badAttributes_64 ?_
          refine lv_topi (fun x55 ex55 => ?_)
          replace hF := hF x55 ex55
          refine lv_istore_n hx hb d_Mo_badAttributes_65 rfl hl (by decide) (lv' := [(3, .int x55), (0, .ref (Bm + v0)), (1, .int x1), (2, .int x2)]) rfl (fun ls hl => ?_)
          refine lv_goto hx hb d_Mo_badAttributes_66 (tgt := 23) rfl ?_
          exact hK23 v0 x1 x2 x55 σ _ _ _ h_v0 hH hT hS (lv_sub hl [1, 2, 3, 0] rfl) hF
        · replace hF := hF.2 hc
          refine lv_iconst hx hb d_Mo_badAttributes_51 ki_1 ?_
          exact rs_iret C hH hT hS hF d_Mo_badAttributes_52
set_option maxRecDepth 20000 in
theorem JL_Mo_badAttributes_2 {p : Program} {l : Launch} {e : Env} {s : State} {m : MethodId} {args : Array Value} {below : List Frame} {meth : Method} {c : Code} {G : rs_G} {Bm : Nat} {S : rs_Shp} {Q : Int32 → rs_Mem → Prop} (C : rs_C "RouteSpeakerModel" prog_12_method_35_code 7 (some .int) G p s m meth c args) : ∀ n : Nat, ∀ (v0 : Nat) (x1 : Int32) (x2 : Int32) (x3 : Int32) (σ : rs_Mem) (H : Heap) (locs : List Loc) (ls : Array Slot), rs_Ok S 11 v0 → rs_H G Bm S σ H → rs_T S σ → va_S (rs_A Bm) s.heap H locs → lv_has ls 7 [(0, .ref (Bm + v0)), (1, .int x1), (2, .int x2), (3, .int x3)] → (L_Mo_badAttributes_2 S.2.2 Q n) v0 x1 x2 x3 σ → W p l e { frames := 2, cells := 0, slots := 0, locals := 45 } s m args below meth c H locs 0 0 (MQ below (rs_Qi G Bm S Q) args s 0 0 (rs_A Bm)) (F0 m 2 ls []) := by
  have hx := C.1
  have hb := C.2.1
  intro n
  induction n with
  | zero => intros; rename_i hF; exact hF.elim
  | succ n hK2 =>
    intro v0 x1 x2 x3 σ H locs ls h_v0 hH hT hS hl hF
    replace hF : G_Mo_badAttributes_2 S.2.2 Q (L_Mo_badAttributes_2 S.2.2 Q n) v0 x1 x2 x3 σ := hF
    unfold G_Mo_badAttributes_2 at hF
    refine lv_iload_n hx hb d_Mo_badAttributes_2 rfl (lv_at hl 3 rfl) ?_
    refine lv_bipush hx hb d_Mo_badAttributes_3 kb_11 ?_
    refine lv_icmp_ge hx hb d_Mo_badAttributes_5 (tgt := 21) rfl (fun hc => ?_) (fun hc => ?_)
    · replace hF := hF.1 hc
      refine lv_iload_n hx hb d_Mo_badAttributes_21 rfl (lv_at hl 1 rfl) ?_
      refine lv_istore_n hx hb d_Mo_badAttributes_22 rfl hl (by decide) (lv' := [(3, .int x1), (0, .ref (Bm + v0)), (1, .int x1), (2, .int x2)]) rfl (fun ls hl => ?_)
      obtain ⟨n, hF⟩ := hF
      exact JL_Mo_badAttributes_23 C n v0 x1 x2 x1 σ _ _ _ h_v0 hH hT hS (lv_sub hl [1, 2, 3, 0] rfl) hF
    · replace hF := hF.2 hc
      refine lv_aload_n hx hb d_Mo_badAttributes_8 rfl (lv_at hl 0 rfl) ?_
      refine rs_getR C hH hT h_v0 fk_11_39 tw_938 d_Mo_badAttributes_9 (fun h51 => ?_)
      refine lv_iload_n hx hb d_Mo_badAttributes_12 rfl (lv_at hl 3 rfl) ?_
      refine lv_iconst hx hb d_Mo_badAttributes_13 ki_m1 ?_
      obtain ⟨g52, hF⟩ := hF
      refine rs_iast C hH hT hS h51 g52 d_Mo_badAttributes_14 (fun σ53 H locs eσ53 hH hT hS => ?_)
      replace hF := hF σ53 eσ53
      obtain ⟨x54, ex54⟩ : ∃ z : Int32, z = x3 + (1 : Int32) := ⟨_, rfl⟩
      replace hF := hF x54 ex54
      refine lv_iinc hx hb d_Mo_badAttributes_15 hl (k := 3) rfl (v := x54) (by rw [ki_1, ex54]) (by decide) (lv' := [(3, .int x54), (0, .ref (Bm + v0)), (1, .int x1), (2, .int x2)]) rfl (fun ls hl => ?_)
      refine lv_goto hx hb d_Mo_badAttributes_18 (tgt := 2) rfl ?_
      exact hK2 v0 x1 x2 x54 σ53 _ _ _ h_v0 hH hT hS (lv_sub hl [1, 2, 3, 0] rfl) hF
abbrev y_Mo_badAttributes : MethodName := ({ cls := "RouteSpeakerModel", name := "badAttributes", desc := "(II)I" } : Jvm.MethodName)
theorem rc_Mo_badAttributes : rs_Cal y_Mo_badAttributes prog_12_method_35_code 7 (some .int) 2 := ⟨tw_1207, tw_11, by decide, by decide, by decide +kernel⟩
set_option maxRecDepth 20000 in
theorem J_Mo_badAttributes (l : Launch) {G : rs_G} {Bm : Nat} {S : rs_Shp} {v0 : Nat} {x1 : Int32} {x2 : Int32} {σ : rs_Mem} {Q : Int32 → rs_Mem → Prop} (h_v0 : rs_Ok S 11 v0) (hF : F_Mo_badAttributes S.2.2 v0 x1 x2 σ Q) :
    Met l y_Mo_badAttributes (rs_ws y_Mo_badAttributes prog_12_method_35_code 7 (some .int)) { frames := 2, cells := 0, slots := 0, locals := 45 } (rs_P G Bm S σ [.ref (Bm + v0), .int x1, .int x2]) (rs_Qi G Bm S Q) 0 0 (rs_A Bm) := by
  refine rs_met (own := "RouteSpeakerModel") (by decide) rfl (Nat.le_of_ble_eq_true rfl) (fun p e s m below meth c ls C hl hH hT hS => ?_)
  replace hl : lv_has ls 7 [(0, .ref (Bm + v0)), (1, .int x1), (2, .int x2)] := hl
  have hx := C.1
  have hb := C.2.1
  unfold F_Mo_badAttributes at hF
  refine lv_iconst hx hb d_Mo_badAttributes_0 ki_0 ?_
  refine lv_istore_n hx hb d_Mo_badAttributes_1 rfl hl (by decide) (lv' := [(3, .int (0 : Int32)), (0, .ref (Bm + v0)), (1, .int x1), (2, .int x2)]) rfl (fun ls hl => ?_)
  obtain ⟨n, hF⟩ := hF
  exact JL_Mo_badAttributes_2 C n v0 x1 x2 (0 : Int32) σ _ _ _ h_v0 hH hT hS (lv_sub hl [1, 2, 3, 0] rfl) hF
