/-! RouteSpeakerModel.session(II)I -/
theorem d_Mo_session_0 : decode prog_12_method_63_code 0 = .ok (.aload_n 0, 1) := by decide +kernel
theorem d_Mo_session_1 : decode prog_12_method_63_code 1 = .ok (.iconst 0, 1) := by decide +kernel
theorem d_Mo_session_2 : decode prog_12_method_63_code 2 = .ok (.putfield 126, 3) := by decide +kernel
theorem d_Mo_session_5 : decode prog_12_method_63_code 5 = .ok (.iload_n 1, 1) := by decide +kernel
theorem d_Mo_session_6 : decode prog_12_method_63_code 6 = .ok (.invokestatic 158, 3) := by decide +kernel
theorem d_Mo_session_9 : decode prog_12_method_63_code 9 = .ok (.ifCond .ne (5), 3) := by decide +kernel
theorem d_Mo_session_12 : decode prog_12_method_63_code 12 = .ok (.iconst (-1), 1) := by decide +kernel
theorem d_Mo_session_13 : decode prog_12_method_63_code 13 = .ok (.ireturn, 1) := by decide +kernel
theorem d_Mo_session_14 : decode prog_12_method_63_code 14 = .ok (.iload_n 2, 1) := by decide +kernel
theorem d_Mo_session_15 : decode prog_12_method_63_code 15 = .ok (.tableswitch (90) (0) (6) #[41, 48, 55, 62, 69, 76, 83], 41) := by decide +kernel
theorem d_Mo_session_56 : decode prog_12_method_63_code 56 = .ok (.aload_n 0, 1) := by decide +kernel
theorem d_Mo_session_57 : decode prog_12_method_63_code 57 = .ok (.getfield 16, 3) := by decide +kernel
theorem d_Mo_session_60 : decode prog_12_method_63_code 60 = .ok (.iload_n 1, 1) := by decide +kernel
theorem d_Mo_session_61 : decode prog_12_method_63_code 61 = .ok (.iaload, 1) := by decide +kernel
theorem d_Mo_session_62 : decode prog_12_method_63_code 62 = .ok (.ireturn, 1) := by decide +kernel
theorem d_Mo_session_63 : decode prog_12_method_63_code 63 = .ok (.aload_n 0, 1) := by decide +kernel
theorem d_Mo_session_64 : decode prog_12_method_63_code 64 = .ok (.getfield 19, 3) := by decide +kernel
theorem d_Mo_session_67 : decode prog_12_method_63_code 67 = .ok (.iload_n 1, 1) := by decide +kernel
theorem d_Mo_session_68 : decode prog_12_method_63_code 68 = .ok (.iaload, 1) := by decide +kernel
theorem d_Mo_session_69 : decode prog_12_method_63_code 69 = .ok (.ireturn, 1) := by decide +kernel
theorem d_Mo_session_70 : decode prog_12_method_63_code 70 = .ok (.aload_n 0, 1) := by decide +kernel
theorem d_Mo_session_71 : decode prog_12_method_63_code 71 = .ok (.getfield 22, 3) := by decide +kernel
theorem d_Mo_session_74 : decode prog_12_method_63_code 74 = .ok (.iload_n 1, 1) := by decide +kernel
theorem d_Mo_session_75 : decode prog_12_method_63_code 75 = .ok (.iaload, 1) := by decide +kernel
theorem d_Mo_session_76 : decode prog_12_method_63_code 76 = .ok (.ireturn, 1) := by decide +kernel
theorem d_Mo_session_77 : decode prog_12_method_63_code 77 = .ok (.aload_n 0, 1) := by decide +kernel
theorem d_Mo_session_78 : decode prog_12_method_63_code 78 = .ok (.getfield 25, 3) := by decide +kernel
theorem d_Mo_session_81 : decode prog_12_method_63_code 81 = .ok (.iload_n 1, 1) := by decide +kernel
theorem d_Mo_session_82 : decode prog_12_method_63_code 82 = .ok (.iaload, 1) := by decide +kernel
theorem d_Mo_session_83 : decode prog_12_method_63_code 83 = .ok (.ireturn, 1) := by decide +kernel
theorem d_Mo_session_84 : decode prog_12_method_63_code 84 = .ok (.aload_n 0, 1) := by decide +kernel
theorem d_Mo_session_85 : decode prog_12_method_63_code 85 = .ok (.getfield 28, 3) := by decide +kernel
theorem d_Mo_session_88 : decode prog_12_method_63_code 88 = .ok (.iload_n 1, 1) := by decide +kernel
theorem d_Mo_session_89 : decode prog_12_method_63_code 89 = .ok (.iaload, 1) := by decide +kernel
theorem d_Mo_session_90 : decode prog_12_method_63_code 90 = .ok (.ireturn, 1) := by decide +kernel
theorem d_Mo_session_91 : decode prog_12_method_63_code 91 = .ok (.aload_n 0, 1) := by decide +kernel
theorem d_Mo_session_92 : decode prog_12_method_63_code 92 = .ok (.getfield 61, 3) := by decide +kernel
theorem d_Mo_session_95 : decode prog_12_method_63_code 95 = .ok (.iload_n 1, 1) := by decide +kernel
theorem d_Mo_session_96 : decode prog_12_method_63_code 96 = .ok (.iaload, 1) := by decide +kernel
theorem d_Mo_session_97 : decode prog_12_method_63_code 97 = .ok (.ireturn, 1) := by decide +kernel
theorem d_Mo_session_98 : decode prog_12_method_63_code 98 = .ok (.aload_n 0, 1) := by decide +kernel
theorem d_Mo_session_99 : decode prog_12_method_63_code 99 = .ok (.getfield 55, 3) := by decide +kernel
theorem d_Mo_session_102 : decode prog_12_method_63_code 102 = .ok (.iload_n 1, 1) := by decide +kernel
theorem d_Mo_session_103 : decode prog_12_method_63_code 103 = .ok (.iaload, 1) := by decide +kernel
theorem d_Mo_session_104 : decode prog_12_method_63_code 104 = .ok (.ireturn, 1) := by decide +kernel
theorem d_Mo_session_105 : decode prog_12_method_63_code 105 = .ok (.iconst (-1), 1) := by decide +kernel
theorem d_Mo_session_106 : decode prog_12_method_63_code 106 = .ok (.ireturn, 1) := by decide +kernel
def F_Mo_session (N : Nat → Nat) (v0 : Nat) (x1 : Int32) (x2 : Int32) (σ : rs_Mem) (Q : Int32 → rs_Mem → Prop) : Prop :=
  (∀ σ51 : rs_Mem, σ51 = rs_sI σ v0 0 (0 : Int32) → (F_Mo_isPeer N x1 σ51 (fun x53 σ52 => ((¬ (x53 = 0) → (((x2.toInt < 0 ∨ 6 < x2.toInt) → (Q (-1 : Int32) σ52)) ∧ (x2 = 0 → (vp_in x1 (N (rs_R σ52 v0 3)) ∧ (Q (rs_I σ52 (rs_R σ52 v0 3) x1.toNatClampNeg) σ52))) ∧ (x2 = 1 → (vp_in x1 (N (rs_R σ52 v0 4)) ∧ (Q (rs_I σ52 (rs_R σ52 v0 4) x1.toNatClampNeg) σ52))) ∧ (x2 = 2 → (vp_in x1 (N (rs_R σ52 v0 5)) ∧ (Q (rs_I σ52 (rs_R σ52 v0 5) x1.toNatClampNeg) σ52))) ∧ (x2 = 3 → (vp_in x1 (N (rs_R σ52 v0 6)) ∧ (Q (rs_I σ52 (rs_R σ52 v0 6) x1.toNatClampNeg) σ52))) ∧ (x2 = 4 → (vp_in x1 (N (rs_R σ52 v0 7)) ∧ (Q (rs_I σ52 (rs_R σ52 v0 7) x1.toNatClampNeg) σ52))) ∧ (x2 = 5 → (vp_in x1 (N (rs_R σ52 v0 18)) ∧ (Q (rs_I σ52 (rs_R σ52 v0 18) x1.toNatClampNeg) σ52))) ∧ (x2 = 6 → (vp_in x1 (N (rs_R σ52 v0 16)) ∧ (Q (rs_I σ52 (rs_R σ52 v0 16) x1.toNatClampNeg) σ52))))) ∧ (x53 = 0 → (Q (-1 : Int32) σ52))))))
abbrev y_Mo_session : MethodName := ({ cls := "RouteSpeakerModel", name := "session", desc := "(II)I" } : Jvm.MethodName)
theorem rc_Mo_session : rs_Cal y_Mo_session prog_12_method_63_code 3 (some .int) 2 := ⟨tw_1267, tw_11, by decide, by decide, by decide +kernel⟩
set_option maxRecDepth 20000 in
theorem J_Mo_session (l : Launch) {G : rs_G} {Bm : Nat} {S : rs_Shp} {v0 : Nat} {x1 : Int32} {x2 : Int32} {σ : rs_Mem} {Q : Int32 → rs_Mem → Prop} (h_v0 : rs_Ok S 11 v0) (hF : F_Mo_session S.2.2 v0 x1 x2 σ Q) :
    Met l y_Mo_session (rs_ws y_Mo_session prog_12_method_63_code 3 (some .int)) { frames := 1, cells := 0, slots := 0, locals := 20 } (rs_P G Bm S σ [.ref (Bm + v0), .int x1, .int x2]) (rs_Qi G Bm S Q) 0 0 (rs_A Bm) := by
  refine rs_met (own := "RouteSpeakerModel") (by decide) rfl (Nat.le_of_ble_eq_true rfl) (fun p e s m below meth c ls C hl hH hT hS => ?_)
  replace hl : lv_has ls 3 [(0, .ref (Bm + v0)), (1, .int x1), (2, .int x2)] := hl
  have hx := C.1
  have hb := C.2.1
  unfold F_Mo_session at hF
  refine lv_aload_n hx hb d_Mo_session_0 rfl (lv_at hl 0 rfl) ?_
  refine lv_iconst hx hb d_Mo_session_1 ki_0 ?_
  refine rs_putI C hH hT hS h_v0 fk_11_0 rfl tw_899 d_Mo_session_2 (fun σ51 H locs eσ51 hH hT hS => ?_)
  replace hF := hF σ51 eσ51
  refine lv_iload_n hx hb d_Mo_session_5 rfl (lv_at hl 1 rfl) ?_
  refine rs_ci (rs_runS C hH hT hl (J_Mo_isPeer l hF) rc_Mo_isPeer tw_1031 tw_1032 rfl ⟨⟨rfl, rfl⟩, by decide, by decide, by decide⟩ (Nat.le_of_ble_eq_true rfl) rfl d_Mo_session_6) hS (fun x53 σ52 H locs hH hT hS hF => ?_)
  refine lv_if_ne hx hb d_Mo_session_9 (tgt := 14) rfl (fun hc => ?_) (fun hc => ?_)
  · replace hF := hF.1 hc
    refine lv_iload_n hx hb d_Mo_session_14 rfl (lv_at hl 2 rfl) ?_
    rcases rs_sw_0_6 x2 with hc | hc | hc | hc | hc | hc | hc | hc
    · replace hF := hF.1 hc
      refine lv_tableOut hx hb d_Mo_session_15 hc (tgt := 105) rfl ?_
      refine lv_iconst hx hb d_Mo_session_105 ki_m1 ?_
      exact rs_iret C hH hT hS hF d_Mo_session_106
    · replace hF := hF.2.1 hc
      refine lv_tableIn hx hb d_Mo_session_15 (by rw [hc]; decide) (by rw [hc]; decide) (off := 41) (by rw [hc]; rfl) (tgt := 56) rfl ?_
      refine lv_aload_n hx hb d_Mo_session_56 rfl (lv_at hl 0 rfl) ?_
      refine rs_getR C hH hT h_v0 fk_11_3 tw_902 d_Mo_session_57 (fun h54 => ?_)
      refine lv_iload_n hx hb d_Mo_session_60 rfl (lv_at hl 1 rfl) ?_
      obtain ⟨g55, hF⟩ := hF
      refine rs_iald C hH h54 g55 d_Mo_session_61 ?_
      exact rs_iret C hH hT hS hF d_Mo_session_62
    · replace hF := hF.2.2.1 hc
      refine lv_tableIn hx hb d_Mo_session_15 (by rw [hc]; decide) (by rw [hc]; decide) (off := 48) (by rw [hc]; rfl) (tgt := 63) rfl ?_
      refine lv_aload_n hx hb d_Mo_session_63 rfl (lv_at hl 0 rfl) ?_
      refine rs_getR C hH hT h_v0 fk_11_4 tw_903 d_Mo_session_64 (fun h54 => ?_)
      refine lv_iload_n hx hb d_Mo_session_67 rfl (lv_at hl 1 rfl) ?_
      obtain ⟨g55, hF⟩ := hF
      refine rs_iald C hH h54 g55 d_Mo_session_68 ?_
      exact rs_iret C hH hT hS hF d_Mo_session_69
    · replace hF := hF.2.2.2.1 hc
      refine lv_tableIn hx hb d_Mo_session_15 (by rw [hc]; decide) (by rw [hc]; decide) (off := 55) (by rw [hc]; rfl) (tgt := 70) rfl ?_
      refine lv_aload_n hx hb d_Mo_session_70 rfl (lv_at hl 0 rfl) ?_
      refine rs_getR C hH hT h_v0 fk_11_5 tw_904 d_Mo_session_71 (fun h54 => ?_)
      refine lv_iload_n hx hb d_Mo_session_74 rfl (lv_at hl 1 rfl) ?_
      obtain ⟨g55, hF⟩ := hF
      refine rs_iald C hH h54 g55 d_Mo_session_75 ?_
      exact rs_iret C hH hT hS hF d_Mo_session_76
    · replace hF := hF.2.2.2.2.1 hc
      refine lv_tableIn hx hb d_Mo_session_15 (by rw [hc]; decide) (by rw [hc]; decide) (off := 62) (by rw [hc]; rfl) (tgt := 77) rfl ?_
      refine lv_aload_n hx hb d_Mo_session_77 rfl (lv_at hl 0 rfl) ?_
      refine rs_getR C hH hT h_v0 fk_11_6 tw_905 d_Mo_session_78 (fun h54 => ?_)
      refine lv_iload_n hx hb d_Mo_session_81 rfl (lv_at hl 1 rfl) ?_
      obtain ⟨g55, hF⟩ := hF
      refine rs_iald C hH h54 g55 d_Mo_session_82 ?_
      exact rs_iret C hH hT hS hF d_Mo_session_83
    · replace hF := hF.2.2.2.2.2.1 hc
      refine lv_tableIn hx hb d_Mo_session_15 (by rw [hc]; decide) (by rw [hc]; decide) (off := 69) (by rw [hc]; rfl) (tgt := 84) rfl ?_
      refine lv_aload_n hx hb d_Mo_session_84 rfl (lv_at hl 0 rfl) ?_
      refine rs_getR C hH hT h_v0 fk_11_7 tw_906 d_Mo_session_85 (fun h54 => ?_)
      refine lv_iload_n hx hb d_Mo_session_88 rfl (lv_at hl 1 rfl) ?_
      obtain ⟨g55, hF⟩ := hF
      refine rs_iald C hH h54 g55 d_Mo_session_89 ?_
      exact rs_iret C hH hT hS hF d_Mo_session_90
    · replace hF := hF.2.2.2.2.2.2.1 hc
      refine lv_tableIn hx hb d_Mo_session_15 (by rw [hc]; decide) (by rw [hc]; decide) (off := 76) (by rw [hc]; rfl) (tgt := 91) rfl ?_
      refine lv_aload_n hx hb d_Mo_session_91 rfl (lv_at hl 0 rfl) ?_
      refine rs_getR C hH hT h_v0 fk_11_18 tw_917 d_Mo_session_92 (fun h54 => ?_)
      refine lv_iload_n hx hb d_Mo_session_95 rfl (lv_at hl 1 rfl) ?_
      obtain ⟨g55, hF⟩ := hF
      refine rs_iald C hH h54 g55 d_Mo_session_96 ?_
      exact rs_iret C hH hT hS hF d_Mo_session_97
    · replace hF := hF.2.2.2.2.2.2.2 hc
      refine lv_tableIn hx hb d_Mo_session_15 (by rw [hc]; decide) (by rw [hc]; decide) (off := 83) (by rw [hc]; rfl) (tgt := 98) rfl ?_
      refine lv_aload_n hx hb d_Mo_session_98 rfl (lv_at hl 0 rfl) ?_
      refine rs_getR C hH hT h_v0 fk_11_16 tw_915 d_Mo_session_99 (fun h54 => ?_)
      refine lv_iload_n hx hb d_Mo_session_102 rfl (lv_at hl 1 rfl) ?_
      obtain ⟨g55, hF⟩ := hF
      refine rs_iald C hH h54 g55 d_Mo_session_103 ?_
      exact rs_iret C hH hT hS hF d_Mo_session_104
  · replace hF := hF.2 hc
    refine lv_iconst hx hb d_Mo_session_12 ki_m1 ?_
    exact rs_iret C hH hT hS hF d_Mo_session_13
/-! RouteSpeakerModel.best(III)I -/
theorem d_Mo_best_0 : decode prog_12_method_64_code 0 = .ok (.aload_n 0, 1) := by decide +kernel
theorem d_Mo_best_1 : decode prog_12_method_64_code 1 = .ok (.iconst 0, 1) := by decide +kernel
theorem d_Mo_best_2 : decode prog_12_method_64_code 2 = .ok (.putfield 126, 3) := by decide +kernel
theorem d_Mo_best_5 : decode prog_12_method_64_code 5 = .ok (.iload_n 1, 1) := by decide +kernel
theorem d_Mo_best_6 : decode prog_12_method_64_code 6 = .ok (.iload_n 2, 1) := by decide +kernel
theorem d_Mo_best_7 : decode prog_12_method_64_code 7 = .ok (.invokestatic 167, 3) := by decide +kernel
theorem d_Mo_best_10 : decode prog_12_method_64_code 10 = .ok (.ifCond .eq (13), 3) := by decide +kernel
theorem d_Mo_best_13 : decode prog_12_method_64_code 13 = .ok (.iload_n 3, 1) := by decide +kernel
theorem d_Mo_best_14 : decode prog_12_method_64_code 14 = .ok (.ifCond .lt (9), 3) := by decide +kernel
theorem d_Mo_best_17 : decode prog_12_method_64_code 17 = .ok (.iload_n 3, 1) := by decide +kernel
theorem d_Mo_best_18 : decode prog_12_method_64_code 18 = .ok (.bipush (21), 2) := by decide +kernel
theorem d_Mo_best_20 : decode prog_12_method_64_code 20 = .ok (.if_icmp .le (9), 3) := by decide +kernel
theorem d_Mo_best_23 : decode prog_12_method_64_code 23 = .ok (.aload_n 0, 1) := by decide +kernel
theorem d_Mo_best_24 : decode prog_12_method_64_code 24 = .ok (.iconst 1, 1) := by decide +kernel
theorem d_Mo_best_25 : decode prog_12_method_64_code 25 = .ok (.invokevirtual 304, 3) := by decide +kernel
theorem d_Mo_best_28 : decode prog_12_method_64_code 28 = .ok (.ireturn, 1) := by decide +kernel
theorem d_Mo_best_29 : decode prog_12_method_64_code 29 = .ok (.aload_n 0, 1) := by decide +kernel
theorem d_Mo_best_30 : decode prog_12_method_64_code 30 = .ok (.iload_n 1, 1) := by decide +kernel
theorem d_Mo_best_31 : decode prog_12_method_64_code 31 = .ok (.iload_n 2, 1) := by decide +kernel
theorem d_Mo_best_32 : decode prog_12_method_64_code 32 = .ok (.invokevirtual 137, 3) := by decide +kernel
theorem d_Mo_best_35 : decode prog_12_method_64_code 35 = .ok (.istore 4, 2) := by decide +kernel
theorem d_Mo_best_37 : decode prog_12_method_64_code 37 = .ok (.iload 4, 2) := by decide +kernel
theorem d_Mo_best_39 : decode prog_12_method_64_code 39 = .ok (.ifCond .ge (7), 3) := by decide +kernel
theorem d_Mo_best_42 : decode prog_12_method_64_code 42 = .ok (.iconst (-1), 1) := by decide +kernel
theorem d_Mo_best_43 : decode prog_12_method_64_code 43 = .ok (.goto (9), 3) := by decide +kernel
theorem d_Mo_best_46 : decode prog_12_method_64_code 46 = .ok (.aload_n 0, 1) := by decide +kernel
theorem d_Mo_best_47 : decode prog_12_method_64_code 47 = .ok (.iload 4, 2) := by decide +kernel
theorem d_Mo_best_49 : decode prog_12_method_64_code 49 = .ok (.invokevirtual 283, 3) := by decide +kernel
theorem d_Mo_best_52 : decode prog_12_method_64_code 52 = .ok (.istore 5, 2) := by decide +kernel
theorem d_Mo_best_54 : decode prog_12_method_64_code 54 = .ok (.iload 5, 2) := by decide +kernel
theorem d_Mo_best_56 : decode prog_12_method_64_code 56 = .ok (.ifCond .ge (9), 3) := by decide +kernel
theorem d_Mo_best_59 : decode prog_12_method_64_code 59 = .ok (.aload_n 0, 1) := by decide +kernel
theorem d_Mo_best_60 : decode prog_12_method_64_code 60 = .ok (.iconst 2, 1) := by decide +kernel
theorem d_Mo_best_61 : decode prog_12_method_64_code 61 = .ok (.invokevirtual 304, 3) := by decide +kernel
theorem d_Mo_best_64 : decode prog_12_method_64_code 64 = .ok (.ireturn, 1) := by decide +kernel
theorem d_Mo_best_65 : decode prog_12_method_64_code 65 = .ok (.bipush (12), 2) := by decide +kernel
theorem d_Mo_best_67 : decode prog_12_method_64_code 67 = .ok (.iload 5, 2) := by decide +kernel
theorem d_Mo_best_69 : decode prog_12_method_64_code 69 = .ok (.imul, 1) := by decide +kernel
theorem d_Mo_best_70 : decode prog_12_method_64_code 70 = .ok (.iload 4, 2) := by decide +kernel
theorem d_Mo_best_72 : decode prog_12_method_64_code 72 = .ok (.iadd, 1) := by decide +kernel
theorem d_Mo_best_73 : decode prog_12_method_64_code 73 = .ok (.istore 6, 2) := by decide +kernel
theorem d_Mo_best_75 : decode prog_12_method_64_code 75 = .ok (.iload_n 3, 1) := by decide +kernel
theorem d_Mo_best_76 : decode prog_12_method_64_code 76 = .ok (.bipush (15), 2) := by decide +kernel
theorem d_Mo_best_78 : decode prog_12_method_64_code 78 = .ok (.if_icmp .le (37), 3) := by decide +kernel
theorem d_Mo_best_81 : decode prog_12_method_64_code 81 = .ok (.iload_n 3, 1) := by decide +kernel
theorem d_Mo_best_82 : decode prog_12_method_64_code 82 = .ok (.bipush (16), 2) := by decide +kernel
theorem d_Mo_best_84 : decode prog_12_method_64_code 84 = .ok (.isub, 1) := by decide +kernel
theorem d_Mo_best_85 : decode prog_12_method_64_code 85 = .ok (.aload_n 0, 1) := by decide +kernel
theorem d_Mo_best_86 : decode prog_12_method_64_code 86 = .ok (.getfield 98, 3) := by decide +kernel
theorem d_Mo_best_89 : decode prog_12_method_64_code 89 = .ok (.iload 6, 2) := by decide +kernel
theorem d_Mo_best_91 : decode prog_12_method_64_code 91 = .ok (.iaload, 1) := by decide +kernel
theorem d_Mo_best_92 : decode prog_12_method_64_code 92 = .ok (.if_icmp .ge (21), 3) := by decide +kernel
theorem d_Mo_best_95 : decode prog_12_method_64_code 95 = .ok (.aload_n 0, 1) := by decide +kernel
theorem d_Mo_best_96 : decode prog_12_method_64_code 96 = .ok (.getfield 101, 3) := by decide +kernel
theorem d_Mo_best_99 : decode prog_12_method_64_code 99 = .ok (.bipush (6), 2) := by decide +kernel
theorem d_Mo_best_101 : decode prog_12_method_64_code 101 = .ok (.iload 6, 2) := by decide +kernel
theorem d_Mo_best_103 : decode prog_12_method_64_code 103 = .ok (.imul, 1) := by decide +kernel
theorem d_Mo_best_104 : decode prog_12_method_64_code 104 = .ok (.iload_n 3, 1) := by decide +kernel
theorem d_Mo_best_105 : decode prog_12_method_64_code 105 = .ok (.iadd, 1) := by decide +kernel
theorem d_Mo_best_106 : decode prog_12_method_64_code 106 = .ok (.bipush (16), 2) := by decide +kernel
theorem d_Mo_best_108 : decode prog_12_method_64_code 108 = .ok (.isub, 1) := by decide +kernel
theorem d_Mo_best_109 : decode prog_12_method_64_code 109 = .ok (.iaload, 1) := by decide +kernel
theorem d_Mo_best_110 : decode prog_12_method_64_code 110 = .ok (.goto (4), 3) := by decide +kernel
theorem d_Mo_best_113 : decode prog_12_method_64_code 113 = .ok (.iconst 0, 1) := by decide +kernel
theorem d_Mo_best_114 : decode prog_12_method_64_code 114 = .ok (.ireturn, 1) := by decide +kernel
theorem d_Mo_best_115 : decode prog_12_method_64_code 115 = .ok (.iload_n 3, 1) := by decide +kernel
theorem d_Mo_best_116 : decode prog_12_method_64_code 116 = .ok (.bipush (7), 2) := by decide +kernel
theorem d_Mo_best_118 : decode prog_12_method_64_code 118 = .ok (.if_icmp .le (37), 3) := by decide +kernel
theorem d_Mo_best_121 : decode prog_12_method_64_code 121 = .ok (.iload_n 3, 1) := by decide +kernel
theorem d_Mo_best_122 : decode prog_12_method_64_code 122 = .ok (.bipush (8), 2) := by decide +kernel
theorem d_Mo_best_124 : decode prog_12_method_64_code 124 = .ok (.isub, 1) := by decide +kernel
theorem d_Mo_best_125 : decode prog_12_method_64_code 125 = .ok (.aload_n 0, 1) := by decide +kernel
theorem d_Mo_best_126 : decode prog_12_method_64_code 126 = .ok (.getfield 80, 3) := by decide +kernel
theorem d_Mo_best_129 : decode prog_12_method_64_code 129 = .ok (.iload 6, 2) := by decide +kernel
theorem d_Mo_best_131 : decode prog_12_method_64_code 131 = .ok (.iaload, 1) := by decide +kernel
theorem d_Mo_best_132 : decode prog_12_method_64_code 132 = .ok (.if_icmp .ge (21), 3) := by decide +kernel
theorem d_Mo_best_135 : decode prog_12_method_64_code 135 = .ok (.aload_n 0, 1) := by decide +kernel
theorem d_Mo_best_136 : decode prog_12_method_64_code 136 = .ok (.getfield 83, 3) := by decide +kernel
theorem d_Mo_best_139 : decode prog_12_method_64_code 139 = .ok (.bipush (8), 2) := by decide +kernel
theorem d_Mo_best_141 : decode prog_12_method_64_code 141 = .ok (.iload 6, 2) := by decide +kernel
theorem d_Mo_best_143 : decode prog_12_method_64_code 143 = .ok (.imul, 1) := by decide +kernel
theorem d_Mo_best_144 : decode prog_12_method_64_code 144 = .ok (.iload_n 3, 1) := by decide +kernel
theorem d_Mo_best_145 : decode prog_12_method_64_code 145 = .ok (.iadd, 1) := by decide +kernel
theorem d_Mo_best_146 : decode prog_12_method_64_code 146 = .ok (.bipush (8), 2) := by decide +kernel
theorem d_Mo_best_148 : decode prog_12_method_64_code 148 = .ok (.isub, 1) := by decide +kernel
theorem d_Mo_best_149 : decode prog_12_method_64_code 149 = .ok (.iaload, 1) := by decide +kernel
theorem d_Mo_best_150 : decode prog_12_method_64_code 150 = .ok (.goto (4), 3) := by decide +kernel
theorem d_Mo_best_153 : decode prog_12_method_64_code 153 = .ok (.iconst 0, 1) := by decide +kernel
theorem d_Mo_best_154 : decode prog_12_method_64_code 154 = .ok (.ireturn, 1) := by decide +kernel
theorem d_Mo_best_155 : decode prog_12_method_64_code 155 = .ok (.iload_n 3, 1) := by decide +kernel
theorem d_Mo_best_156 : decode prog_12_method_64_code 156 = .ok (.iconst 2, 1) := by decide +kernel
theorem d_Mo_best_157 : decode prog_12_method_64_code 157 = .ok (.if_icmp .ge (21), 3) := by decide +kernel
theorem d_Mo_best_160 : decode prog_12_method_64_code 160 = .ok (.iload_n 3, 1) := by decide +kernel
theorem d_Mo_best_161 : decode prog_12_method_64_code 161 = .ok (.ifCond .ne (8), 3) := by decide +kernel
theorem d_Mo_best_164 : decode prog_12_method_64_code 164 = .ok (.iload 5, 2) := by decide +kernel
theorem d_Mo_best_166 : decode prog_12_method_64_code 166 = .ok (.goto (11), 3) := by decide +kernel
theorem d_Mo_best_169 : decode prog_12_method_64_code 169 = .ok (.aload_n 0, 1) := by decide +kernel
theorem d_Mo_best_170 : decode prog_12_method_64_code 170 = .ok (.iload 5, 2) := by decide +kernel
theorem d_Mo_best_172 : decode prog_12_method_64_code 172 = .ok (.iload 4, 2) := by decide +kernel
theorem d_Mo_best_174 : decode prog_12_method_64_code 174 = .ok (.invokevirtual 255, 3) := by decide +kernel
theorem d_Mo_best_177 : decode prog_12_method_64_code 177 = .ok (.ireturn, 1) := by decide +kernel
theorem d_Mo_best_178 : decode prog_12_method_64_code 178 = .ok (.iload_n 3, 1) := by decide +kernel
theorem d_Mo_best_179 : decode prog_12_method_64_code 179 = .ok (.iconst 4, 1) := by decide +kernel
theorem d_Mo_best_180 : decode prog_12_method_64_code 180 = .ok (.if_icmp .ge (26), 3) := by decide +kernel
theorem d_Mo_best_183 : decode prog_12_method_64_code 183 = .ok (.iload_n 3, 1) := by decide +kernel
theorem d_Mo_best_184 : decode prog_12_method_64_code 184 = .ok (.iconst 2, 1) := by decide +kernel
theorem d_Mo_best_185 : decode prog_12_method_64_code 185 = .ok (.if_icmp .ne (13), 3) := by decide +kernel
theorem d_Mo_best_188 : decode prog_12_method_64_code 188 = .ok (.aload_n 0, 1) := by decide +kernel
theorem d_Mo_best_189 : decode prog_12_method_64_code 189 = .ok (.getfield 77, 3) := by decide +kernel
theorem d_Mo_best_192 : decode prog_12_method_64_code 192 = .ok (.iload 6, 2) := by decide +kernel
theorem d_Mo_best_194 : decode prog_12_method_64_code 194 = .ok (.iaload, 1) := by decide +kernel
theorem d_Mo_best_195 : decode prog_12_method_64_code 195 = .ok (.goto (10), 3) := by decide +kernel
theorem d_Mo_best_198 : decode prog_12_method_64_code 198 = .ok (.aload_n 0, 1) := by decide +kernel
theorem d_Mo_best_199 : decode prog_12_method_64_code 199 = .ok (.getfield 80, 3) := by decide +kernel
theorem d_Mo_best_202 : decode prog_12_method_64_code 202 = .ok (.iload 6, 2) := by decide +kernel
theorem d_Mo_best_204 : decode prog_12_method_64_code 204 = .ok (.iaload, 1) := by decide +kernel
theorem d_Mo_best_205 : decode prog_12_method_64_code 205 = .ok (.ireturn, 1) := by decide +kernel
theorem d_Mo_best_206 : decode prog_12_method_64_code 206 = .ok (.iload_n 3, 1) := by decide +kernel
theorem d_Mo_best_207 : decode prog_12_method_64_code 207 = .ok (.iconst 4, 1) := by decide +kernel
theorem d_Mo_best_208 : decode prog_12_method_64_code 208 = .ok (.if_icmp .ne (13), 3) := by decide +kernel
theorem d_Mo_best_211 : decode prog_12_method_64_code 211 = .ok (.aload_n 0, 1) := by decide +kernel
theorem d_Mo_best_212 : decode prog_12_method_64_code 212 = .ok (.getfield 86, 3) := by decide +kernel
theorem d_Mo_best_215 : decode prog_12_method_64_code 215 = .ok (.iload 6, 2) := by decide +kernel
theorem d_Mo_best_217 : decode prog_12_method_64_code 217 = .ok (.iaload, 1) := by decide +kernel
theorem d_Mo_best_218 : decode prog_12_method_64_code 218 = .ok (.goto (41), 3) := by decide +kernel
theorem d_Mo_best_221 : decode prog_12_method_64_code 221 = .ok (.iload_n 3, 1) := by decide +kernel
theorem d_Mo_best_222 : decode prog_12_method_64_code 222 = .ok (.iconst 5, 1) := by decide +kernel
theorem d_Mo_best_223 : decode prog_12_method_64_code 223 = .ok (.if_icmp .ne (13), 3) := by decide +kernel
theorem d_Mo_best_226 : decode prog_12_method_64_code 226 = .ok (.aload_n 0, 1) := by decide +kernel
theorem d_Mo_best_227 : decode prog_12_method_64_code 227 = .ok (.getfield 89, 3) := by decide +kernel
theorem d_Mo_best_230 : decode prog_12_method_64_code 230 = .ok (.iload 6, 2) := by decide +kernel
theorem d_Mo_best_232 : decode prog_12_method_64_code 232 = .ok (.iaload, 1) := by decide +kernel
theorem d_Mo_best_233 : decode prog_12_method_64_code 233 = .ok (.goto (26), 3) := by decide +kernel
theorem d_Mo_best_236 : decode prog_12_method_64_code 236 = .ok (.iload_n 3, 1) := by decide +kernel
theorem d_Mo_best_237 : decode prog_12_method_64_code 237 = .ok (.bipush (6), 2) := by decide +kernel
theorem d_Mo_best_239 : decode prog_12_method_64_code 239 = .ok (.if_icmp .ne (13), 3) := by decide +kernel
theorem d_Mo_best_242 : decode prog_12_method_64_code 242 = .ok (.aload_n 0, 1) := by decide +kernel
theorem d_Mo_best_243 : decode prog_12_method_64_code 243 = .ok (.getfield 95, 3) := by decide +kernel
theorem d_Mo_best_246 : decode prog_12_method_64_code 246 = .ok (.iload 6, 2) := by decide +kernel
theorem d_Mo_best_248 : decode prog_12_method_64_code 248 = .ok (.iaload, 1) := by decide +kernel
theorem d_Mo_best_249 : decode prog_12_method_64_code 249 = .ok (.goto (10), 3) := by decide +kernel
theorem d_Mo_best_252 : decode prog_12_method_64_code 252 = .ok (.aload_n 0, 1) := by decide +kernel
theorem d_Mo_best_253 : decode prog_12_method_64_code 253 = .ok (.getfield 98, 3) := by decide +kernel
theorem d_Mo_best_256 : decode prog_12_method_64_code 256 = .ok (.iload 6, 2) := by decide +kernel
theorem d_Mo_best_258 : decode prog_12_method_64_code 258 = .ok (.iaload, 1) := by decide +kernel
theorem d_Mo_best_259 : decode prog_12_method_64_code 259 = .ok (.ireturn, 1) := by decide +kernel
def B_Mo_best_23 (N : Nat → Nat) (Q : Int32 → rs_Mem → Prop) (v0 : Nat) (σ : rs_Mem) : Prop :=
  (F_Mo_fails N v0 (1 : Int32) σ (fun x52 σ51 => (Q x52 σ51)))
def B_Mo_best_52 (N : Nat → Nat) (Q : Int32 → rs_Mem → Prop) (v0 : Nat) (x3 : Int32) (x4 : Int32) (y0 : Int32) (σ : rs_Mem) : Prop :=
  ((0 ≤ y0 → (∀ x51 : Int32, x51 = (((12 : Int32) * y0) + x4) → ((x3 ≤ (15 : Int32) → ((x3 ≤ (7 : Int32) → (((2 : Int32) ≤ x3 → (((4 : Int32) ≤ x3 → ((¬ (x3 = (4 : Int32)) → ((¬ (x3 = (5 : Int32)) → ((¬ (x3 = (6 : Int32)) → (vp_in x51 (N (rs_R σ v0 32)) ∧ (Q (rs_I σ (rs_R σ v0 32) x51.toNatClampNeg) σ))) ∧ (x3 = (6 : Int32) → (vp_in x51 (N (rs_R σ v0 31)) ∧ (Q (rs_I σ (rs_R σ v0 31) x51.toNatClampNeg) σ))))) ∧ (x3 = (5 : Int32) → (vp_in x51 (N (rs_R σ v0 29)) ∧ (Q (rs_I σ (rs_R σ v0 29) x51.toNatClampNeg) σ))))) ∧ (x3 = (4 : Int32) → (vp_in x51 (N (rs_R σ v0 28)) ∧ (Q (rs_I σ (rs_R σ v0 28) x51.toNatClampNeg) σ))))) ∧ (¬ ((4 : Int32) ≤ x3) → ((¬ (x3 = (2 : Int32)) → (vp_in x51 (N (rs_R σ v0 26)) ∧ (Q (rs_I σ (rs_R σ v0 26) x51.toNatClampNeg) σ))) ∧ (x3 = (2 : Int32) → (vp_in x51 (N (rs_R σ v0 25)) ∧ (Q (rs_I σ (rs_R σ v0 25) x51.toNatClampNeg) σ))))))) ∧ (¬ ((2 : Int32) ≤ x3) → ((¬ (x3 = 0) → (F_Mo_valued N v0 y0 x4 σ (fun x53 σ52 => (Q x53 σ52)))) ∧ (x3 = 0 → (Q y0 σ)))))) ∧ (¬ (x3 ≤ (7 : Int32)) → (vp_in x51 (N (rs_R σ v0 26)) ∧ (((rs_I σ (rs_R σ v0 26) x51.toNatClampNeg) ≤ (x3 - (8 : Int32)) → (Q (0 : Int32) σ)) ∧ (¬ ((rs_I σ (rs_R σ v0 26) x51.toNatClampNeg) ≤ (x3 - (8 : Int32))) → (vp_in ((((8 : Int32) * x51) + x3) - (8 : Int32)) (N (rs_R σ v0 27)) ∧ (Q (rs_I σ (rs_R σ v0 27) ((((8 : Int32) * x51) + x3) - (8 : Int32)).toNatClampNeg) σ)))))))) ∧ (¬ (x3 ≤ (15 : Int32)) → (vp_in x51 (N (rs_R σ v0 32)) ∧ (((rs_I σ (rs_R σ v0 32) x51.toNatClampNeg) ≤ (x3 - (16 : Int32)) → (Q (0 : Int32) σ)) ∧ (¬ ((rs_I σ (rs_R σ v0 32) x51.toNatClampNeg) ≤ (x3 - (16 : Int32))) → (vp_in ((((6 : Int32) * x51) + x3) - (16 : Int32)) (N (rs_R σ v0 33)) ∧ (Q (rs_I σ (rs_R σ v0 33) ((((6 : Int32) * x51) + x3) - (16 : Int32)).toNatClampNeg) σ))))))))) ∧ (¬ (0 ≤ y0) → (F_Mo_fails N v0 (2 : Int32) σ (fun x52 σ51 => (Q x52 σ51)))))
def F_Mo_best (N : Nat → Nat) (v0 : Nat) (x1 : Int32) (x2 : Int32) (x3 : Int32) (σ : rs_Mem) (Q : Int32 → rs_Mem → Prop) : Prop :=
  (∀ σ51 : rs_Mem, σ51 = rs_sI σ v0 0 (0 : Int32) → (F_Mo_isPrefix N x1 x2 σ51 (fun x53 σ52 => ((x53 = 0 → (B_Mo_best_23 N Q v0 σ52)) ∧ (¬ (x53 = 0) → ((x3 < 0 → (B_Mo_best_23 N Q v0 σ52)) ∧ (¬ (x3 < 0) → ((x3 ≤ (21 : Int32) → (F_Mo_find N v0 x1 x2 σ52 (fun x55 σ54 => ((0 ≤ x55 → (F_Mo_bestOf N v0 x55 σ54 (fun x57 σ56 => (B_Mo_best_52 N Q v0 x3 x55 x57 σ56)))) ∧ (¬ (0 ≤ x55) → (B_Mo_best_52 N Q v0 x3 x55 (-1 : Int32) σ54)))))) ∧ (¬ (x3 ≤ (21 : Int32)) → (B_Mo_best_23 N Q v0 σ52))))))))))
set_option maxRecDepth 20000 in
theorem JB_Mo_best_23 {p : Program} {l : Launch} {e : Env} {s : State} {m : MethodId} {args : Array Value} {below : List Frame} {meth : Method} {c : Code} {G : rs_G} {Bm : Nat} {S : rs_Shp} {Q : Int32 → rs_Mem → Prop} (C : rs_C "RouteSpeakerModel" prog_12_method_64_code 7 (some .int) G p s m meth c args) (v0 : Nat) (σ : rs_Mem) (H : Heap) (locs : List Loc) (ls : Array Slot) (h_v0 : rs_Ok S 11 v0) (hH : rs_H G Bm S σ H) (hT : rs_T S σ) (hS : va_S (rs_A Bm) s.heap H locs) (hl : lv_has ls 7 [(0, .ref (Bm + v0))]) (hF : B_Mo_best_23 S.2.2 Q v0 σ) :
    W p l e { frames := 6, cells := 0, slots := 0, locals := 138 } s m args below meth c H locs 0 0 (MQ below (rs_Qi G Bm S Q) args s 0 0 (rs_A Bm)) (F0 m 23 ls []) := by
  have hx := C.1
  have hb := C.2.1
  unfold B_Mo_best_23 at hF
  refine lv_aload_n hx hb d_Mo_best_23 rfl (lv_at hl 0 rfl) ?_
  refine lv_iconst hx hb d_Mo_best_24 ki_1 ?_
  refine rs_ci (rs_runV C hH hT hl (J_Mo_fails l h_v0 hF) rc_Mo_fails tw_1272 tw_1274 ts_76 h_v0 ⟨rfl, by decide, by decide⟩ rfl ⟨⟨rfl, rfl⟩, by decide, by decide, by decide⟩ (Nat.le_of_ble_eq_true rfl) rfl d_Mo_best_25) hS (fun x52 σ51 H locs hH hT hS hF => ?_)
  exact rs_iret C hH hT hS hF d_Mo_best_28
set_option maxRecDepth 20000 in
theorem JB_Mo_best_52 {p : Program} {l : Launch} {e : Env} {s : State} {m : MethodId} {args : Array Value} {below : List Frame} {meth : Method} {c : Code} {G : rs_G} {Bm : Nat} {S : rs_Shp} {Q : Int32 → rs_Mem → Prop} (C : rs_C "RouteSpeakerModel" prog_12_method_64_code 7 (some .int) G p s m meth c args) (v0 : Nat) (x3 : Int32) (x4 : Int32) (y0 : Int32) (σ : rs_Mem) (H : Heap) (locs : List Loc) (ls : Array Slot) (h_v0 : rs_Ok S 11 v0) (hH : rs_H G Bm S σ H) (hT : rs_T S σ) (hS : va_S (rs_A Bm) s.heap H locs) (hl : lv_has ls 7 [(0, .ref (Bm + v0)), (3, .int x3), (4, .int x4)]) (hF : B_Mo_best_52 S.2.2 Q v0 x3 x4 y0 σ) :
    W p l e { frames := 6, cells := 0, slots := 0, locals := 138 } s m args below meth c H locs 0 0 (MQ below (rs_Qi G Bm S Q) args s 0 0 (rs_A Bm)) (F0 m 52 ls [.int y0]) := by
  have hx := C.1
  have hb := C.2.1
  unfold B_Mo_best_52 at hF
  refine lv_istore hx hb d_Mo_best_52 hl (by decide) (lv' := [(5, .int y0), (0, .ref (Bm + v0)), (3, .int x3), (4, .int x4)]) rfl (fun ls hl => ?_)
  refine lv_iload hx hb d_Mo_best_54 (lv_at hl 0 rfl) ?_
  refine lv_if_ge hx hb d_Mo_best_56 (tgt := 65) rfl (fun hc => ?_) (fun hc => ?_)
  · replace hF := hF.1 hc
    refine lv_bipush hx hb d_Mo_best_65 kb_12 ?_
    refine lv_iload hx hb d_Mo_best_67 (lv_at hl 0 rfl) ?_
    refine lv_imul hx hb d_Mo_best_69 ?_
    refine lv_iload hx hb d_Mo_best_70 (lv_at hl 3 rfl) ?_
    refine lv_iadd hx hb d_Mo_best_72 ?_
    refine lv_topi (fun x51 ex51 => ?_)
    replace hF := hF x51 ex51
    refine lv_istore hx hb d_Mo_best_73 hl (by decide) (lv' := [(6, .int x51), (5, .int y0), (0, .ref (Bm + v0)), (3, .int x3), (4, .int x4)]) rfl (fun ls hl => ?_)
    refine lv_iload_n hx hb d_Mo_best_75 rfl (lv_at hl 3 rfl) ?_
    refine lv_bipush hx hb d_Mo_best_76 kb_15 ?_
    refine lv_icmp_le hx hb d_Mo_best_78 (tgt := 115) rfl (fun hc => ?_) (fun hc => ?_)
    · replace hF := hF.1 hc
      refine lv_iload_n hx hb d_Mo_best_115 rfl (lv_at hl 3 rfl) ?_
      refine lv_bipush hx hb d_Mo_best_116 kb_7 ?_
      refine lv_icmp_le hx hb d_Mo_best_118 (tgt := 155) rfl (fun hc => ?_) (fun hc => ?_)
      · replace hF := hF.1 hc
        refine lv_iload_n hx hb d_Mo_best_155 rfl (lv_at hl 3 rfl) ?_
        refine lv_iconst hx hb d_Mo_best_156 ki_2 ?_
        refine lv_icmp_ge hx hb d_Mo_best_157 (tgt := 178) rfl (fun hc => ?_) (fun hc => ?_)
        · replace hF := hF.1 hc
          refine lv_iload_n hx hb d_Mo_best_178 rfl (lv_at hl 3 rfl) ?_
          refine lv_iconst hx hb d_Mo_best_179 ki_4 ?_
          refine lv_icmp_ge hx hb d_Mo_best_180 (tgt := 206) rfl (fun hc => ?_) (fun hc => ?_)
          · replace hF := hF.1 hc
            refine lv_iload_n hx hb d_Mo_best_206 rfl (lv_at hl 3 rfl) ?_
            refine lv_iconst hx hb d_Mo_best_207 ki_4 ?_
            refine lv_icmp_ne hx hb d_Mo_best_208 (tgt := 221) rfl (fun hc => ?_) (fun hc => ?_)
            · replace hF := hF.1 hc
              refine lv_iload_n hx hb d_Mo_best_221 rfl (lv_at hl 3 rfl) ?_
              refine lv_iconst hx hb d_Mo_best_222 ki_5 ?_
              refine lv_icmp_ne hx hb d_Mo_best_223 (tgt := 236) rfl (fun hc => ?_) (fun hc => ?_)
              · replace hF := hF.1 hc
                refine lv_iload_n hx hb d_Mo_best_236 rfl (lv_at hl 3 rfl) ?_
                refine lv_bipush hx hb d_Mo_best_237 kb_6 ?_
                refine lv_icmp_ne hx hb d_Mo_best_239 (tgt := 252) rfl (fun hc => ?_) (fun hc => ?_)
                · replace hF := hF.1 hc
                  refine lv_aload_n hx hb d_Mo_best_252 rfl (lv_at hl 2 rfl) ?_
                  refine rs_getR C hH hT h_v0 fk_11_32 tw_931 d_Mo_best_253 (fun h52 => ?_)
                  refine lv_iload hx hb d_Mo_best_256 (lv_at hl 0 rfl) ?_
                  obtain ⟨g53, hF⟩ := hF
                  refine rs_iald C hH h52 g53 d_Mo_best_258 ?_
                  exact rs_iret C hH hT hS hF d_Mo_best_259
                · replace hF := hF.2 hc
                  refine lv_aload_n hx hb d_Mo_best_242 rfl (lv_at hl 2 rfl) ?_
                  refine rs_getR C hH hT h_v0 fk_11_31 tw_930 d_Mo_best_243 (fun h52 => ?_)
                  refine lv_iload hx hb d_Mo_best_246 (lv_at hl 0 rfl) ?_
                  obtain ⟨g53, hF⟩ := hF
                  refine rs_iald C hH h52 g53 d_Mo_best_248 ?_
                  refine lv_goto hx hb d_Mo_best_249 (tgt := 259) rfl ?_
                  exact rs_iret C hH hT hS hF d_Mo_best_259
              · replace hF := hF.2 hc
                refine lv_aload_n hx hb d_Mo_best_226 rfl (lv_at hl 2 rfl) ?_
                refine rs_getR C hH hT h_v0 fk_11_29 tw_928 d_Mo_best_227 (fun h52 => ?_)
                refine lv_iload hx hb d_Mo_best_230 (lv_at hl 0 rfl) ?_
                obtain ⟨g53, hF⟩ := hF
                refine rs_iald C hH h52 g53 d_Mo_best_232 ?_
                refine lv_goto hx hb d_Mo_best_233 (tgt := 259) rfl ?_
                exact rs_iret C hH hT hS hF d_Mo_best_259
            · replace hF := hF.2 hc
              refine lv_aload_n hx hb d_Mo_best_211 rfl (lv_at hl 2 rfl) ?_
              refine rs_getR C hH hT h_v0 fk_11_28 tw_927 d_Mo_best_212 (fun h52 => ?_)
              refine lv_iload hx hb d_Mo_best_215 (lv_at hl 0 rfl) ?_
              obtain ⟨g53, hF⟩ := hF
              refine rs_iald C hH h52 g53 d_Mo_best_217 ?_
              refine lv_goto hx hb d_Mo_best_218 (tgt := 259) rfl ?_
              exact rs_iret C hH hT hS hF d_Mo_best_259
          · replace hF := hF.2 hc
            refine lv_iload_n hx hb d_Mo_best_183 rfl (lv_at hl 3 rfl) ?_
            refine lv_iconst hx hb d_Mo_best_184 ki_2 ?_
            refine lv_icmp_ne hx hb d_Mo_best_185 (tgt := 198) rfl (fun hc => ?_) (fun hc => ?_)
            · replace hF := hF.1 hc
              refine lv_aload_n hx hb d_Mo_best_198 rfl (lv_at hl 2 rfl) ?_
              refine rs_getR C hH hT h_v0 fk_11_26 tw_925 d_Mo_best_199 (fun h52 => ?_)
              refine lv_iload hx hb d_Mo_best_202 (lv_at hl 0 rfl) ?_
              obtain ⟨g53, hF⟩ := hF
              refine rs_iald C hH h52 g53 d_Mo_best_204 ?_
              exact rs_iret C hH hT hS hF d_Mo_best_205
            · replace hF := hF.2 hc
              refine lv_aload_n hx hb d_Mo_best_188 rfl (lv_at hl 2 rfl) ?_
              refine rs_getR C hH hT h_v0 fk_11_25 tw_924 d_Mo_best_189 (fun h52 => ?_)
              refine lv_iload hx hb d_Mo_best_192 (lv_at hl 0 rfl) ?_
              obtain ⟨g53, hF⟩ := hF
              refine rs_iald C hH h52 g53 d_Mo_best_194 ?_
              refine lv_goto hx hb d_Mo_best_195 (tgt := 205) rfl ?_
              exact rs_iret C hH hT hS hF d_Mo_best_205
        · replace hF := hF.2 hc
          refine lv_iload_n hx hb d_Mo_best_160 rfl (lv_at hl 3 rfl) ?_
          refine lv_if_ne hx hb d_Mo_best_161 (tgt := 169) rfl (fun hc => ?_) (fun hc => ?_)
          · replace hF := hF.1 hc
            refine lv_aload_n hx hb d_Mo_best_169 rfl (lv_at hl 2 rfl) ?_
            refine lv_iload hx hb d_Mo_best_170 (lv_at hl 1 rfl) ?_
            refine lv_iload hx hb d_Mo_best_172 (lv_at hl 4 rfl) ?_
            refine rs_ci (rs_runV C hH hT hl (J_Mo_valued l h_v0 hF) rc_Mo_valued tw_1088 tw_1090 ts_45 h_v0 ⟨rfl, by decide, by decide⟩ rfl ⟨⟨rfl, rfl⟩, by decide, by decide, by decide⟩ (Nat.le_of_ble_eq_true rfl) rfl d_Mo_best_174) hS (fun x53 σ52 H locs hH hT hS hF => ?_)
            exact rs_iret C hH hT hS hF d_Mo_best_177
          · replace hF := hF.2 hc
            refine lv_iload hx hb d_Mo_best_164 (lv_at hl 1 rfl) ?_
            refine lv_goto hx hb d_Mo_best_166 (tgt := 177) rfl ?_
            exact rs_iret C hH hT hS hF d_Mo_best_177
      · replace hF := hF.2 hc
        refine lv_iload_n hx hb d_Mo_best_121 rfl (lv_at hl 3 rfl) ?_
        refine lv_bipush hx hb d_Mo_best_122 kb_8 ?_
        refine lv_isub hx hb d_Mo_best_124 ?_
        refine lv_aload_n hx hb d_Mo_best_125 rfl (lv_at hl 2 rfl) ?_
        refine rs_getR C hH hT h_v0 fk_11_26 tw_925 d_Mo_best_126 (fun h52 => ?_)
        refine lv_iload hx hb d_Mo_best_129 (lv_at hl 0 rfl) ?_
        obtain ⟨g53, hF⟩ := hF
        refine rs_iald C hH h52 g53 d_Mo_best_131 ?_
        refine lv_icmp_ge hx hb d_Mo_best_132 (tgt := 153) rfl (fun hc => ?_) (fun hc => ?_)
        · replace hF := hF.1 hc
          refine lv_iconst hx hb d_Mo_best_153 ki_0 ?_
          exact rs_iret C hH hT hS hF d_Mo_best_154
        · replace hF := hF.2 hc
          refine lv_aload_n hx hb d_Mo_best_135 rfl (lv_at hl 2 rfl) ?_
          refine rs_getR C hH hT h_v0 fk_11_27 tw_926 d_Mo_best_136 (fun h54 => ?_)
          refine lv_bipush hx hb d_Mo_best_139 kb_8 ?_
          refine lv_iload hx hb d_Mo_best_141 (lv_at hl 0 rfl) ?_
          refine lv_imul hx hb d_Mo_best_143 ?_
          refine lv_iload_n hx hb d_Mo_best_144 rfl (lv_at hl 3 rfl) ?_
          refine lv_iadd hx hb d_Mo_best_145 ?_
          refine lv_bipush hx hb d_Mo_best_146 kb_8 ?_
          refine lv_isub hx hb d_Mo_best_148 ?_
          obtain ⟨g55, hF⟩ := hF
          refine rs_iald C hH h54 g55 d_Mo_best_149 ?_
          refine lv_goto hx hb d_Mo_best_150 (tgt := 154) rfl ?_
          exact rs_iret C hH hT hS hF d_Mo_best_154
    · replace hF := hF.2 hc
      refine lv_iload_n hx hb d_Mo_best_81 rfl (lv_at hl 3 rfl) ?_
      refine lv_bipush hx hb d_Mo_best_82 kb_16 ?_
      refine lv_isub hx hb d_Mo_best_84 ?_
      refine lv_aload_n hx hb d_Mo_best_85 rfl (lv_at hl 2 rfl) ?_
      refine rs_getR C hH hT h_v0 fk_11_32 tw_931 d_Mo_best_86 (fun h52 => ?_)
      refine lv_iload hx hb d_Mo_best_89 (lv_at hl 0 rfl) ?_
      obtain ⟨g53, hF⟩ := hF
      refine rs_iald C hH h52 g53 d_Mo_best_91 ?_
      refine lv_icmp_ge hx hb d_Mo_best_92 (tgt := 113) rfl (fun hc => ?_) (fun hc => ?_)
      · replace hF := hF.1 hc
        refine lv_iconst hx hb d_Mo_best_113 ki_0 ?_
        exact rs_iret C hH hT hS hF d_Mo_best_114
      · replace hF := hF.2 hc
        refine lv_aload_n hx hb d_Mo_best_95 rfl (lv_at hl 2 rfl) ?_
        refine rs_getR C hH hT h_v0 fk_11_33 tw_932 d_Mo_best_96 (fun h54 => ?_)
        refine lv_bipush hx hb d_Mo_best_99 kb_6 ?_
        refine lv_iload hx hb d_Mo_best_101 (lv_at hl 0 rfl) ?_
        refine lv_imul hx hb d_Mo_best_103 ?_
        refine lv_iload_n hx hb d_Mo_best_104 rfl (lv_at hl 3 rfl) ?_
        refine lv_iadd hx hb d_Mo_best_105 ?_
        refine lv_bipush hx hb d_Mo_best_106 kb_16 ?_
        refine lv_isub hx hb d_Mo_best_108 ?_
        obtain ⟨g55, hF⟩ := hF
        refine rs_iald C hH h54 g55 d_Mo_best_109 ?_
        refine lv_goto hx hb d_Mo_best_110 (tgt := 114) rfl ?_
        exact rs_iret C hH hT hS hF d_Mo_best_114
  · replace hF := hF.2 hc
    refine lv_aload_n hx hb d_Mo_best_59 rfl (lv_at hl 1 rfl) ?_
    refine lv_iconst hx hb d_Mo_best_60 ki_2 ?_
    refine rs_ci (rs_runV C hH hT hl (J_Mo_fails l h_v0 hF) rc_Mo_fails tw_1272 tw_1274 ts_76 h_v0 ⟨rfl, by decide, by decide⟩ rfl ⟨⟨rfl, rfl⟩, by decide, by decide, by decide⟩ (Nat.le_of_ble_eq_true rfl) rfl d_Mo_best_61) hS (fun x52 σ51 H locs hH hT hS hF => ?_)
    exact rs_iret C hH hT hS hF d_Mo_best_64
abbrev y_Mo_best : MethodName := ({ cls := "RouteSpeakerModel", name := "best", desc := "(III)I" } : Jvm.MethodName)
theorem rc_Mo_best : rs_Cal y_Mo_best prog_12_method_64_code 7 (some .int) 3 := ⟨tw_1271, tw_11, by decide, by decide, by decide +kernel⟩
set_option maxRecDepth 20000 in
theorem J_Mo_best (l : Launch) {G : rs_G} {Bm : Nat} {S : rs_Shp} {v0 : Nat} {x1 : Int32} {x2 : Int32} {x3 : Int32} {σ : rs_Mem} {Q : Int32 → rs_Mem → Prop} (h_v0 : rs_Ok S 11 v0) (hF : F_Mo_best S.2.2 v0 x1 x2 x3 σ Q) :
    Met l y_Mo_best (rs_ws y_Mo_best prog_12_method_64_code 7 (some .int)) { frames := 6, cells := 0, slots := 0, locals := 138 } (rs_P G Bm S σ [.ref (Bm + v0), .int x1, .int x2, .int x3]) (rs_Qi G Bm S Q) 0 0 (rs_A Bm) := by
  refine rs_met (own := "RouteSpeakerModel") (by decide) rfl (Nat.le_of_ble_eq_true rfl) (fun p e s m below meth c ls C hl hH hT hS => ?_)
  replace hl : lv_has ls 7 [(0, .ref (Bm + v0)), (1, .int x1), (2, .int x2), (3, .int x3)] := hl
  have hx := C.1
  have hb := C.2.1
  unfold F_Mo_best at hF
  refine lv_aload_n hx hb d_Mo_best_0 rfl (lv_at hl 0 rfl) ?_
  refine lv_iconst hx hb d_Mo_best_1 ki_0 ?_
  refine rs_putI C hH hT hS h_v0 fk_11_0 rfl tw_899 d_Mo_best_2 (fun σ51 H locs eσ51 hH hT hS => ?_)
  replace hF := hF σ51 eσ51
  refine lv_iload_n hx hb d_Mo_best_5 rfl (lv_at hl 1 rfl) ?_
  refine lv_iload_n hx hb d_Mo_best_6 rfl (lv_at hl 2 rfl) ?_
  refine rs_ci (rs_runS C hH hT hl (J_Mo_isPrefix l hF) rc_Mo_isPrefix tw_1136 tw_1137 rfl ⟨⟨rfl, rfl⟩, by decide, by decide, by decide⟩ (Nat.le_of_ble_eq_true rfl) rfl d_Mo_best_7) hS (fun x53 σ52 H locs hH hT hS hF => ?_)
  refine lv_if_eq hx hb d_Mo_best_10 (tgt := 23) rfl (fun hc => ?_) (fun hc => ?_)
  · replace hF := hF.1 hc
    exact JB_Mo_best_23 C v0 σ52 _ _ _ h_v0 hH hT hS (lv_sub hl [0] rfl) hF
  · replace hF := hF.2 hc
    refine lv_iload_n hx hb d_Mo_best_13 rfl (lv_at hl 3 rfl) ?_
    refine lv_if_lt hx hb d_Mo_best_14 (tgt := 23) rfl (fun hc => ?_) (fun hc => ?_)
    · replace hF := hF.1 hc
      exact JB_Mo_best_23 C v0 σ52 _ _ _ h_v0 hH hT hS (lv_sub hl [0] rfl) hF
    · replace hF := hF.2 hc
      refine lv_iload_n hx hb d_Mo_best_17 rfl (lv_at hl 3 rfl) ?_
      refine lv_bipush hx hb d_Mo_best_18 kb_21 ?_
      refine lv_icmp_le hx hb d_Mo_best_20 (tgt := 29) rfl (fun hc => ?_) (fun hc => ?_)
      · replace hF := hF.1 hc
        refine lv_aload_n hx hb d_Mo_best_29 rfl (lv_at hl 0 rfl) ?_
        refine lv_iload_n hx hb d_Mo_best_30 rfl (lv_at hl 1 rfl) ?_
        refine lv_iload_n hx hb d_Mo_best_31 rfl (lv_at hl 2 rfl) ?_
        refine rs_ci (rs_runV C hH hT hl (J_Mo_find l h_v0 hF) rc_Mo_find tw_1151 tw_1153 ts_56 h_v0 ⟨rfl, by decide, by decide⟩ rfl ⟨⟨rfl, rfl⟩, by decide, by decide, by decide⟩ (Nat.le_of_ble_eq_true rfl) rfl d_Mo_best_32) hS (fun x55 σ54 H locs hH hT hS hF => ?_)
        refine lv_istore hx hb d_Mo_best_35 hl (by decide) (lv' := [(4, .int x55), (0, .ref (Bm + v0)), (1, .int x1), (2, .int x2), (3, .int x3)]) rfl (fun ls hl => ?_)
        refine lv_iload hx hb d_Mo_best_37 (lv_at hl 0 rfl) ?_
        refine lv_if_ge hx hb d_Mo_best_39 (tgt := 46) rfl (fun hc => ?_) (fun hc => ?_)
        · replace hF := hF.1 hc
          refine lv_aload_n hx hb d_Mo_best_46 rfl (lv_at hl 1 rfl) ?_
          refine lv_iload hx hb d_Mo_best_47 (lv_at hl 0 rfl) ?_
          refine rs_ci (rs_runV C hH hT hl (J_Mo_bestOf l h_v0 hF) rc_Mo_bestOf tw_1049 tw_1051 ts_37 h_v0 ⟨rfl, by decide, by decide⟩ rfl ⟨⟨rfl, rfl⟩, by decide, by decide, by decide⟩ (Nat.le_of_ble_eq_true rfl) rfl d_Mo_best_49) hS (fun x57 σ56 H locs hH hT hS hF => ?_)
          exact JB_Mo_best_52 C v0 x3 x55 x57 σ56 _ _ _ h_v0 hH hT hS (lv_sub hl [1, 4, 0] rfl) hF
        · replace hF := hF.2 hc
          refine lv_iconst hx hb d_Mo_best_42 ki_m1 ?_
          refine lv_goto hx hb d_Mo_best_43 (tgt := 52) rfl ?_
          exact JB_Mo_best_52 C v0 x3 x55 (-1 : Int32) σ54 _ _ _ h_v0 hH hT hS (lv_sub hl [1, 4, 0] rfl) hF
      · replace hF := hF.2 hc
        exact JB_Mo_best_23 C v0 σ52 _ _ _ h_v0 hH hT hS (lv_sub hl [0] rfl) hF
/-! RouteSpeakerModel.flaw(III)I -/
theorem d_Mo_flaw_0 : decode prog_12_method_65_code 0 = .ok (.aload_n 0, 1) := by decide +kernel
theorem d_Mo_flaw_1 : decode prog_12_method_65_code 1 = .ok (.iload_n 1, 1) := by decide +kernel
theorem d_Mo_flaw_2 : decode prog_12_method_65_code 2 = .ok (.invokestatic 158, 3) := by decide +kernel
theorem d_Mo_flaw_5 : decode prog_12_method_65_code 5 = .ok (.ifCond .eq (15), 3) := by decide +kernel
theorem d_Mo_flaw_8 : decode prog_12_method_65_code 8 = .ok (.iload_n 2, 1) := by decide +kernel
theorem d_Mo_flaw_9 : decode prog_12_method_65_code 9 = .ok (.iload_n 3, 1) := by decide +kernel
theorem d_Mo_flaw_10 : decode prog_12_method_65_code 10 = .ok (.invokestatic 167, 3) := by decide +kernel
theorem d_Mo_flaw_13 : decode prog_12_method_65_code 13 = .ok (.ifCond .eq (7), 3) := by decide +kernel
theorem d_Mo_flaw_16 : decode prog_12_method_65_code 16 = .ok (.iconst 0, 1) := by decide +kernel
theorem d_Mo_flaw_17 : decode prog_12_method_65_code 17 = .ok (.goto (4), 3) := by decide +kernel
theorem d_Mo_flaw_20 : decode prog_12_method_65_code 20 = .ok (.iconst 1, 1) := by decide +kernel
theorem d_Mo_flaw_21 : decode prog_12_method_65_code 21 = .ok (.putfield 126, 3) := by decide +kernel
theorem d_Mo_flaw_24 : decode prog_12_method_65_code 24 = .ok (.aload_n 0, 1) := by decide +kernel
theorem d_Mo_flaw_25 : decode prog_12_method_65_code 25 = .ok (.getfield 126, 3) := by decide +kernel
theorem d_Mo_flaw_28 : decode prog_12_method_65_code 28 = .ok (.ifCond .eq (5), 3) := by decide +kernel
theorem d_Mo_flaw_31 : decode prog_12_method_65_code 31 = .ok (.iconst 0, 1) := by decide +kernel
theorem d_Mo_flaw_32 : decode prog_12_method_65_code 32 = .ok (.ireturn, 1) := by decide +kernel
theorem d_Mo_flaw_33 : decode prog_12_method_65_code 33 = .ok (.aload_n 0, 1) := by decide +kernel
theorem d_Mo_flaw_34 : decode prog_12_method_65_code 34 = .ok (.iload_n 2, 1) := by decide +kernel
theorem d_Mo_flaw_35 : decode prog_12_method_65_code 35 = .ok (.iload_n 3, 1) := by decide +kernel
theorem d_Mo_flaw_36 : decode prog_12_method_65_code 36 = .ok (.invokevirtual 137, 3) := by decide +kernel
theorem d_Mo_flaw_39 : decode prog_12_method_65_code 39 = .ok (.istore 4, 2) := by decide +kernel
theorem d_Mo_flaw_41 : decode prog_12_method_65_code 41 = .ok (.iload 4, 2) := by decide +kernel
theorem d_Mo_flaw_43 : decode prog_12_method_65_code 43 = .ok (.ifCond .lt (18), 3) := by decide +kernel
theorem d_Mo_flaw_46 : decode prog_12_method_65_code 46 = .ok (.aload_n 0, 1) := by decide +kernel
theorem d_Mo_flaw_47 : decode prog_12_method_65_code 47 = .ok (.getfield 73, 3) := by decide +kernel
theorem d_Mo_flaw_50 : decode prog_12_method_65_code 50 = .ok (.bipush (12), 2) := by decide +kernel
theorem d_Mo_flaw_52 : decode prog_12_method_65_code 52 = .ok (.iload_n 1, 1) := by decide +kernel
theorem d_Mo_flaw_53 : decode prog_12_method_65_code 53 = .ok (.imul, 1) := by decide +kernel
theorem d_Mo_flaw_54 : decode prog_12_method_65_code 54 = .ok (.iload 4, 2) := by decide +kernel
theorem d_Mo_flaw_56 : decode prog_12_method_65_code 56 = .ok (.iadd, 1) := by decide +kernel
theorem d_Mo_flaw_57 : decode prog_12_method_65_code 57 = .ok (.baload, 1) := by decide +kernel
theorem d_Mo_flaw_58 : decode prog_12_method_65_code 58 = .ok (.ifCond .ne (9), 3) := by decide +kernel
theorem d_Mo_flaw_61 : decode prog_12_method_65_code 61 = .ok (.aload_n 0, 1) := by decide +kernel
theorem d_Mo_flaw_62 : decode prog_12_method_65_code 62 = .ok (.iconst 2, 1) := by decide +kernel
theorem d_Mo_flaw_63 : decode prog_12_method_65_code 63 = .ok (.invokevirtual 304, 3) := by decide +kernel
theorem d_Mo_flaw_66 : decode prog_12_method_65_code 66 = .ok (.ireturn, 1) := by decide +kernel
theorem d_Mo_flaw_67 : decode prog_12_method_65_code 67 = .ok (.bipush (12), 2) := by decide +kernel
theorem d_Mo_flaw_69 : decode prog_12_method_65_code 69 = .ok (.iload_n 1, 1) := by decide +kernel
theorem d_Mo_flaw_70 : decode prog_12_method_65_code 70 = .ok (.imul, 1) := by decide +kernel
theorem d_Mo_flaw_71 : decode prog_12_method_65_code 71 = .ok (.iload 4, 2) := by decide +kernel
theorem d_Mo_flaw_73 : decode prog_12_method_65_code 73 = .ok (.iadd, 1) := by decide +kernel
theorem d_Mo_flaw_74 : decode prog_12_method_65_code 74 = .ok (.istore 5, 2) := by decide +kernel
theorem d_Mo_flaw_76 : decode prog_12_method_65_code 76 = .ok (.aload_n 0, 1) := by decide +kernel
theorem d_Mo_flaw_77 : decode prog_12_method_65_code 77 = .ok (.iload 5, 2) := by decide +kernel
theorem d_Mo_flaw_79 : decode prog_12_method_65_code 79 = .ok (.invokevirtual 268, 3) := by decide +kernel
theorem d_Mo_flaw_82 : decode prog_12_method_65_code 82 = .ok (.ifCond .eq (7), 3) := by decide +kernel
theorem d_Mo_flaw_85 : decode prog_12_method_65_code 85 = .ok (.iconst 1, 1) := by decide +kernel
theorem d_Mo_flaw_86 : decode prog_12_method_65_code 86 = .ok (.goto (4), 3) := by decide +kernel
theorem d_Mo_flaw_89 : decode prog_12_method_65_code 89 = .ok (.iconst 0, 1) := by decide +kernel
theorem d_Mo_flaw_90 : decode prog_12_method_65_code 90 = .ok (.aload_n 0, 1) := by decide +kernel
theorem d_Mo_flaw_91 : decode prog_12_method_65_code 91 = .ok (.getfield 108, 3) := by decide +kernel
theorem d_Mo_flaw_94 : decode prog_12_method_65_code 94 = .ok (.iload 5, 2) := by decide +kernel
theorem d_Mo_flaw_96 : decode prog_12_method_65_code 96 = .ok (.baload, 1) := by decide +kernel
theorem d_Mo_flaw_97 : decode prog_12_method_65_code 97 = .ok (.ifCond .eq (7), 3) := by decide +kernel
theorem d_Mo_flaw_100 : decode prog_12_method_65_code 100 = .ok (.iconst 2, 1) := by decide +kernel
theorem d_Mo_flaw_101 : decode prog_12_method_65_code 101 = .ok (.goto (4), 3) := by decide +kernel
theorem d_Mo_flaw_104 : decode prog_12_method_65_code 104 = .ok (.iconst 0, 1) := by decide +kernel
theorem d_Mo_flaw_105 : decode prog_12_method_65_code 105 = .ok (.iadd, 1) := by decide +kernel
theorem d_Mo_flaw_106 : decode prog_12_method_65_code 106 = .ok (.aload_n 0, 1) := by decide +kernel
theorem d_Mo_flaw_107 : decode prog_12_method_65_code 107 = .ok (.iload_n 1, 1) := by decide +kernel
theorem d_Mo_flaw_108 : decode prog_12_method_65_code 108 = .ok (.iload 4, 2) := by decide +kernel
theorem d_Mo_flaw_110 : decode prog_12_method_65_code 110 = .ok (.invokevirtual 271, 3) := by decide +kernel
theorem d_Mo_flaw_113 : decode prog_12_method_65_code 113 = .ok (.ifCond .eq (7), 3) := by decide +kernel
theorem d_Mo_flaw_116 : decode prog_12_method_65_code 116 = .ok (.iconst 4, 1) := by decide +kernel
theorem d_Mo_flaw_117 : decode prog_12_method_65_code 117 = .ok (.goto (4), 3) := by decide +kernel
theorem d_Mo_flaw_120 : decode prog_12_method_65_code 120 = .ok (.iconst 0, 1) := by decide +kernel
theorem d_Mo_flaw_121 : decode prog_12_method_65_code 121 = .ok (.iadd, 1) := by decide +kernel
theorem d_Mo_flaw_122 : decode prog_12_method_65_code 122 = .ok (.ireturn, 1) := by decide +kernel
def B_Mo_flaw_105 (N : Nat → Nat) (Q : Int32 → rs_Mem → Prop) (v0 : Nat) (x1 : Int32) (x4 : Int32) (y0 : Int32) (y1 : Int32) (σ : rs_Mem) : Prop :=
  (F_Mo_isRejected N v0 x1 x4 σ (fun x52 σ51 => ((x52 = 0 → (Q ((y0 + y1) + (0 : Int32)) σ51)) ∧ (¬ (x52 = 0) → (Q ((y0 + y1) + (4 : Int32)) σ51)))))
def B_Mo_flaw_90 (N : Nat → Nat) (Q : Int32 → rs_Mem → Prop) (v0 : Nat) (x1 : Int32) (x4 : Int32) (x5 : Int32) (y0 : Int32) (σ : rs_Mem) : Prop :=
  (vp_in x5 (N (rs_R σ v0 35)) ∧ (((rs_I σ (rs_R σ v0 35) x5.toNatClampNeg) = 0 → (B_Mo_flaw_105 N Q v0 x1 x4 y0 (0 : Int32) σ)) ∧ (¬ ((rs_I σ (rs_R σ v0 35) x5.toNatClampNeg) = 0) → (B_Mo_flaw_105 N Q v0 x1 x4 y0 (2 : Int32) σ))))
def B_Mo_flaw_61 (N : Nat → Nat) (Q : Int32 → rs_Mem → Prop) (v0 : Nat) (σ : rs_Mem) : Prop :=
  (F_Mo_fails N v0 (2 : Int32) σ (fun x52 σ51 => (Q x52 σ51)))
def B_Mo_flaw_21 (N : Nat → Nat) (Q : Int32 → rs_Mem → Prop) (v0 : Nat) (x1 : Int32) (x2 : Int32) (x3 : Int32) (w0 : Nat) (y1 : Int32) (σ : rs_Mem) : Prop :=
  (∀ σ51 : rs_Mem, σ51 = rs_sI σ w0 0 y1 → (((rs_I σ51 v0 0) = 0 → (F_Mo_find N v0 x2 x3 σ51 (fun x53 σ52 => ((x53 < 0 → (B_Mo_flaw_61 N Q v0 σ52)) ∧ (¬ (x53 < 0) → (vp_in (((12 : Int32) * x1) + x53) (N (rs_R σ52 v0 24)) ∧ ((¬ ((rs_I σ52 (rs_R σ52 v0 24) (((12 : Int32) * x1) + x53).toNatClampNeg) = 0) → (∀ x56 : Int32, x56 = (((12 : Int32) * x1) + x53) → (F_Mo_isBarred N v0 x56 σ52 (fun x58 σ57 => ((x58 = 0 → (B_Mo_flaw_90 N Q v0 x1 x53 x56 (0 : Int32) σ57)) ∧ (¬ (x58 = 0) → (B_Mo_flaw_90 N Q v0 x1 x53 x56 (1 : Int32) σ57))))))) ∧ ((rs_I σ52 (rs_R σ52 v0 24) (((12 : Int32) * x1) + x53).toNatClampNeg) = 0 → (B_Mo_flaw_61 N Q v0 σ52))))))))) ∧ (¬ ((rs_I σ51 v0 0) = 0) → (Q (0 : Int32) σ51))))
def B_Mo_flaw_20 (N : Nat → Nat) (Q : Int32 → rs_Mem → Prop) (v0 : Nat) (x1 : Int32) (x2 : Int32) (x3 : Int32) (w0 : Nat) (σ : rs_Mem) : Prop :=
  (B_Mo_flaw_21 N Q v0 x1 x2 x3 w0 (1 : Int32) σ)
def F_Mo_flaw (N : Nat → Nat) (v0 : Nat) (x1 : Int32) (x2 : Int32) (x3 : Int32) (σ : rs_Mem) (Q : Int32 → rs_Mem → Prop) : Prop :=
  (F_Mo_isPeer N x1 σ (fun x52 σ51 => ((x52 = 0 → (B_Mo_flaw_20 N Q v0 x1 x2 x3 v0 σ51)) ∧ (¬ (x52 = 0) → (F_Mo_isPrefix N x2 x3 σ51 (fun x54 σ53 => ((x54 = 0 → (B_Mo_flaw_20 N Q v0 x1 x2 x3 v0 σ53)) ∧ (¬ (x54 = 0) → (B_Mo_flaw_21 N Q v0 x1 x2 x3 v0 (0 : Int32) σ53)))))))))
set_option maxRecDepth 20000 in
theorem JB_Mo_flaw_105 {p : Program} {l : Launch} {e : Env} {s : State} {m : MethodId} {args : Array Value} {below : List Frame} {meth : Method} {c : Code} {G : rs_G} {Bm : Nat} {S : rs_Shp} {Q : Int32 → rs_Mem → Prop} (C : rs_C "RouteSpeakerModel" prog_12_method_65_code 6 (some .int) G p s m meth c args) (v0 : Nat) (x1 : Int32) (x4 : Int32) (y0 : Int32) (y1 : Int32) (σ : rs_Mem) (H : Heap) (locs : List Loc) (ls : Array Slot) (h_v0 : rs_Ok S 11 v0) (hH : rs_H G Bm S σ H) (hT : rs_T S σ) (hS : va_S (rs_A Bm) s.heap H locs) (hl : lv_has ls 6 [(0, .ref (Bm + v0)), (1, .int x1), (4, .int x4)]) (hF : B_Mo_flaw_105 S.2.2 Q v0 x1 x4 y0 y1 σ) :
    W p l e { frames := 3, cells := 0, slots := 0, locals := 66 } s m args below meth c H locs 0 0 (MQ below (rs_Qi G Bm S Q) args s 0 0 (rs_A Bm)) (F0 m 105 ls [.int y1, .int y0]) := by
  have hx := C.1
  have hb := C.2.1
  unfold B_Mo_flaw_105 at hF
  refine lv_iadd hx hb d_Mo_flaw_105 ?_
  refine lv_aload_n hx hb d_Mo_flaw_106 rfl (lv_at hl 0 rfl) ?_
  refine lv_iload_n hx hb d_Mo_flaw_107 rfl (lv_at hl 1 rfl) ?_
  refine lv_iload hx hb d_Mo_flaw_108 (lv_at hl 2 rfl) ?_
  refine rs_ci (rs_runV C hH hT hl (J_Mo_isRejected l h_v0 hF) rc_Mo_isRejected tw_1057 tw_1059 ts_39 h_v0 ⟨rfl, by decide, by decide⟩ rfl ⟨⟨rfl, rfl⟩, by decide, by decide, by decide⟩ (Nat.le_of_ble_eq_true rfl) rfl d_Mo_flaw_110) hS (fun x52 σ51 H locs hH hT hS hF => ?_)
  refine lv_if_eq hx hb d_Mo_flaw_113 (tgt := 120) rfl (fun hc => ?_) (fun hc => ?_)
  · replace hF := hF.1 hc
    refine lv_iconst hx hb d_Mo_flaw_120 ki_0 ?_
    refine lv_iadd hx hb d_Mo_flaw_121 ?_
    exact rs_iret C hH hT hS hF d_Mo_flaw_122
  · replace hF := hF.2 hc
    refine lv_iconst hx hb d_Mo_flaw_116 ki_4 ?_
    refine lv_goto hx hb d_Mo_flaw_117 (tgt := 121) rfl ?_
    refine lv_iadd hx hb d_Mo_flaw_121 ?_
    exact rs_iret C hH hT hS hF d_Mo_flaw_122
set_option maxRecDepth 20000 in
theorem JB_Mo_flaw_90 {p : Program} {l : Launch} {e : Env} {s : State} {m : MethodId} {args : Array Value} {below : List Frame} {meth : Method} {c : Code} {G : rs_G} {Bm : Nat} {S : rs_Shp} {Q : Int32 → rs_Mem → Prop} (C : rs_C "RouteSpeakerModel" prog_12_method_65_code 6 (some .int) G p s m meth c args) (v0 : Nat) (x1 : Int32) (x4 : Int32) (x5 : Int32) (y0 : Int32) (σ : rs_Mem) (H : Heap) (locs : List Loc) (ls : Array Slot) (h_v0 : rs_Ok S 11 v0) (hH : rs_H G Bm S σ H) (hT : rs_T S σ) (hS : va_S (rs_A Bm) s.heap H locs) (hl : lv_has ls 6 [(0, .ref (Bm + v0)), (1, .int x1), (4, .int x4), (5, .int x5)]) (hF : B_Mo_flaw_90 S.2.2 Q v0 x1 x4 x5 y0 σ) :
    W p l e { frames := 3, cells := 0, slots := 0, locals := 66 } s m args below meth c H locs 0 0 (MQ below (rs_Qi G Bm S Q) args s 0 0 (rs_A Bm)) (F0 m 90 ls [.int y0]) := by
  have hx := C.1
  have hb := C.2.1
  unfold B_Mo_flaw_90 at hF
  refine lv_aload_n hx hb d_Mo_flaw_90 rfl (lv_at hl 0 rfl) ?_
  refine rs_getR C hH hT h_v0 fk_11_35 tw_934 d_Mo_flaw_91 (fun h51 => ?_)
  refine lv_iload hx hb d_Mo_flaw_94 (lv_at hl 3 rfl) ?_
  obtain ⟨g52, hF⟩ := hF
  refine rs_zald C hH h51 g52 d_Mo_flaw_96 ?_
  refine lv_if_eq hx hb d_Mo_flaw_97 (tgt := 104) rfl (fun hc => ?_) (fun hc => ?_)
  · replace hF := hF.1 hc
    refine lv_iconst hx hb d_Mo_flaw_104 ki_0 ?_
    exact JB_Mo_flaw_105 C v0 x1 x4 y0 (0 : Int32) σ _ _ _ h_v0 hH hT hS (lv_sub hl [0, 1, 2] rfl) hF
  · replace hF := hF.2 hc
    refine lv_iconst hx hb d_Mo_flaw_100 ki_2 ?_
    refine lv_goto hx hb d_Mo_flaw_101 (tgt := 105) rfl ?_
    exact JB_Mo_flaw_105 C v0 x1 x4 y0 (2 : Int32) σ _ _ _ h_v0 hH hT hS (lv_sub hl [0, 1, 2] rfl) hF
set_option maxRecDepth 20000 in
theorem JB_Mo_flaw_61 {p : Program} {l : Launch} {e : Env} {s : State} {m : MethodId} {args : Array Value} {below : List Frame} {meth : Method} {c : Code} {G : rs_G} {Bm : Nat} {S : rs_Shp} {Q : Int32 → rs_Mem → Prop} (C : rs_C "RouteSpeakerModel" prog_12_method_65_code 6 (some .int) G p s m meth c args) (v0 : Nat) (σ : rs_Mem) (H : Heap) (locs : List Loc) (ls : Array Slot) (h_v0 : rs_Ok S 11 v0) (hH : rs_H G Bm S σ H) (hT : rs_T S σ) (hS : va_S (rs_A Bm) s.heap H locs) (hl : lv_has ls 6 [(0, .ref (Bm + v0))]) (hF : B_Mo_flaw_61 S.2.2 Q v0 σ) :
    W p l e { frames := 3, cells := 0, slots := 0, locals := 66 } s m args below meth c H locs 0 0 (MQ below (rs_Qi G Bm S Q) args s 0 0 (rs_A Bm)) (F0 m 61 ls []) := by
  have hx := C.1
  have hb := C.2.1
  unfold B_Mo_flaw_61 at hF
  refine lv_aload_n hx hb d_Mo_flaw_61 rfl (lv_at hl 0 rfl) ?_
  refine lv_iconst hx hb d_Mo_flaw_62 ki_2 ?_
  refine rs_ci (rs_runV C hH hT hl (J_Mo_fails l h_v0 hF) rc_Mo_fails tw_1272 tw_1274 ts_76 h_v0 ⟨rfl, by decide, by decide⟩ rfl ⟨⟨rfl, rfl⟩, by decide, by decide, by decide⟩ (Nat.le_of_ble_eq_true rfl) rfl d_Mo_flaw_63) hS (fun x52 σ51 H locs hH hT hS hF => ?_)
  exact rs_iret C hH hT hS hF d_Mo_flaw_66
set_option maxRecDepth 20000 in
theorem JB_Mo_flaw_21 {p : Program} {l : Launch} {e : Env} {s : State} {m : MethodId} {args : Array Value} {below : List Frame} {meth : Method} {c : Code} {G : rs_G} {Bm : Nat} {S : rs_Shp} {Q : Int32 → rs_Mem → Prop} (C : rs_C "RouteSpeakerModel" prog_12_method_65_code 6 (some .int) G p s m meth c args) (v0 : Nat) (x1 : Int32) (x2 : Int32) (x3 : Int32) (w0 : Nat) (y1 : Int32) (σ : rs_Mem) (H : Heap) (locs : List Loc) (ls : Array Slot) (h_v0 : rs_Ok S 11 v0) (h_w0 : rs_Ok S 11 w0) (hH : rs_H G Bm S σ H) (hT : rs_T S σ) (hS : va_S (rs_A Bm) s.heap H locs) (hl : lv_has ls 6 [(0, .ref (Bm + v0)), (1, .int x1), (2, .int x2), (3, .int x3)]) (hF : B_Mo_flaw_21 S.2.2 Q v0 x1 x2 x3 w0 y1 σ) :
    W p l e { frames := 3, cells := 0, slots := 0, locals := 66 } s m args below meth c H locs 0 0 (MQ below (rs_Qi G Bm S Q) args s 0 0 (rs_A Bm)) (F0 m 21 ls [.int y1, .ref (Bm + w0)]) := by
  have hx := C.1
  have hb := C.2.1
  unfold B_Mo_flaw_21 at hF
  refine rs_putI C hH hT hS h_w0 fk_11_0 rfl tw_899 d_Mo_flaw_21 (fun σ51 H locs eσ51 hH hT hS => ?_)
  replace hF := hF σ51 eσ51
  refine lv_aload_n hx hb d_Mo_flaw_24 rfl (lv_at hl 0 rfl) ?_
  refine rs_getI C hH h_v0 fk_11_0 tw_899 d_Mo_flaw_25 ?_
  refine lv_if_eq hx hb d_Mo_flaw_28 (tgt := 33) rfl (fun hc => ?_) (fun hc => ?_)
  · replace hF := hF.1 hc
    refine lv_aload_n hx hb d_Mo_flaw_33 rfl (lv_at hl 0 rfl) ?_
    refine lv_iload_n hx hb d_Mo_flaw_34 rfl (lv_at hl 2 rfl) ?_
    refine lv_iload_n hx hb d_Mo_flaw_35 rfl (lv_at hl 3 rfl) ?_
    refine rs_ci (rs_runV C hH hT hl (J_Mo_find l h_v0 hF) rc_Mo_find tw_1151 tw_1153 ts_56 h_v0 ⟨rfl, by decide, by decide⟩ rfl ⟨⟨rfl, rfl⟩, by decide, by decide, by decide⟩ (Nat.le_of_ble_eq_true rfl) rfl d_Mo_flaw_36) hS (fun x53 σ52 H locs hH hT hS hF => ?_)
    refine lv_istore hx hb d_Mo_flaw_39 hl (by decide) (lv' := [(4, .int x53), (0, .ref (Bm + v0)), (1, .int x1), (2, .int x2), (3, .int x3)]) rfl (fun ls hl => ?_)
    refine lv_iload hx hb d_Mo_flaw_41 (lv_at hl 0 rfl) ?_
    refine lv_if_lt hx hb d_Mo_flaw_43 (tgt := 61) rfl (fun hc => ?_) (fun hc => ?_)
    · replace hF := hF.1 hc
      exact JB_Mo_flaw_61 C v0 σ52 _ _ _ h_v0 hH hT hS (lv_sub hl [1] rfl) hF
    · replace hF := hF.2 hc
      refine lv_aload_n hx hb d_Mo_flaw_46 rfl (lv_at hl 1 rfl) ?_
      refine rs_getR C hH hT h_v0 fk_11_24 tw_923 d_Mo_flaw_47 (fun h54 => ?_)
      refine lv_bipush hx hb d_Mo_flaw_50 kb_12 ?_
      refine lv_iload_n hx hb d_Mo_flaw_52 rfl (lv_at hl 2 rfl) ?_
      refine lv_imul hx hb d_Mo_flaw_53 ?_
      refine lv_iload hx hb d_Mo_flaw_54 (lv_at hl 0 rfl) ?_
      refine lv_iadd hx hb d_Mo_flaw_56 ?_
      obtain ⟨g55, hF⟩ := hF
      refine rs_zald C hH h54 g55 d_Mo_flaw_57 ?_
      refine lv_if_ne hx hb d_Mo_flaw_58 (tgt := 67) rfl (fun hc => ?_) (fun hc => ?_)
      · replace hF := hF.1 hc
        refine lv_bipush hx hb d_Mo_flaw_67 kb_12 ?_
        refine lv_iload_n hx hb d_Mo_flaw_69 rfl (lv_at hl 2 rfl) ?_
        refine lv_imul hx hb d_Mo_flaw_70 ?_
        refine lv_iload hx hb d_Mo_flaw_71 (lv_at hl 0 rfl) ?_
        refine lv_iadd hx hb d_Mo_flaw_73 ?_
        refine lv_topi (fun x56 ex56 => ?_)
        replace hF := hF x56 ex56
        refine lv_istore hx hb d_Mo_flaw_74 hl (by decide) (lv' := [(5, .int x56), (4, .int x53), (0, .ref (Bm + v0)), (1, .int x1), (2, .int x2), (3, .int x3)]) rfl (fun ls hl => ?_)
        refine lv_aload_n hx hb d_Mo_flaw_76 rfl (lv_at hl 2 rfl) ?_
        refine lv_iload hx hb d_Mo_flaw_77 (lv_at hl 0 rfl) ?_
        refine rs_ci (rs_runV C hH hT hl (J_Mo_isBarred l h_v0 hF) rc_Mo_isBarred tw_1053 tw_1055 ts_38 h_v0 ⟨rfl, by decide, by decide⟩ rfl ⟨⟨rfl, rfl⟩, by decide, by decide, by decide⟩ (Nat.le_of_ble_eq_true rfl) rfl d_Mo_flaw_79) hS (fun x58 σ57 H locs hH hT hS hF => ?_)
        refine lv_if_eq hx hb d_Mo_flaw_82 (tgt := 89) rfl (fun hc => ?_) (fun hc => ?_)
        · replace hF := hF.1 hc
          refine lv_iconst hx hb d_Mo_flaw_89 ki_0 ?_
          exact JB_Mo_flaw_90 C v0 x1 x53 x56 (0 : Int32) σ57 _ _ _ h_v0 hH hT hS (lv_sub hl [2, 3, 1, 0] rfl) hF
        · replace hF := hF.2 hc
          refine lv_iconst hx hb d_Mo_flaw_85 ki_1 ?_
          refine lv_goto hx hb d_Mo_flaw_86 (tgt := 90) rfl ?_
          exact JB_Mo_flaw_90 C v0 x1 x53 x56 (1 : Int32) σ57 _ _ _ h_v0 hH hT hS (lv_sub hl [2, 3, 1, 0] rfl) hF
      · replace hF := hF.2 hc
        exact JB_Mo_flaw_61 C v0 σ52 _ _ _ h_v0 hH hT hS (lv_sub hl [1] rfl) hF
  · replace hF := hF.2 hc
    refine lv_iconst hx hb d_Mo_flaw_31 ki_0 ?_
    exact rs_iret C hH hT hS hF d_Mo_flaw_32
set_option maxRecDepth 20000 in
theorem JB_Mo_flaw_20 {p : Program} {l : Launch} {e : Env} {s : State} {m : MethodId} {args : Array Value} {below : List Frame} {meth : Method} {c : Code} {G : rs_G} {Bm : Nat} {S : rs_Shp} {Q : Int32 → rs_Mem → Prop} (C : rs_C "RouteSpeakerModel" prog_12_method_65_code 6 (some .int) G p s m meth c args) (v0 : Nat) (x1 : Int32) (x2 : Int32) (x3 : Int32) (w0 : Nat) (σ : rs_Mem) (H : Heap) (locs : List Loc) (ls : Array Slot) (h_v0 : rs_Ok S 11 v0) (h_w0 : rs_Ok S 11 w0) (hH : rs_H G Bm S σ H) (hT : rs_T S σ) (hS : va_S (rs_A Bm) s.heap H locs) (hl : lv_has ls 6 [(0, .ref (Bm + v0)), (1, .int x1), (2, .int x2), (3, .int x3)]) (hF : B_Mo_flaw_20 S.2.2 Q v0 x1 x2 x3 w0 σ) :
    W p l e { frames := 3, cells := 0, slots := 0, locals := 66 } s m args below meth c H locs 0 0 (MQ below (rs_Qi G Bm S Q) args s 0 0 (rs_A Bm)) (F0 m 20 ls [.ref (Bm + w0)]) := by
  have hx := C.1
  have hb := C.2.1
  unfold B_Mo_flaw_20 at hF
  refine lv_iconst hx hb d_Mo_flaw_20 ki_1 ?_
  exact JB_Mo_flaw_21 C v0 x1 x2 x3 w0 (1 : Int32) σ _ _ _ h_v0 h_w0 hH hT hS (lv_sub hl [0, 1, 2, 3] rfl) hF
abbrev y_Mo_flaw : MethodName := ({ cls := "RouteSpeakerModel", name := "flaw", desc := "(III)I" } : Jvm.MethodName)
theorem rc_Mo_flaw : rs_Cal y_Mo_flaw prog_12_method_65_code 6 (some .int) 3 := ⟨tw_1279, tw_11, by decide, by decide, by decide +kernel⟩
set_option maxRecDepth 20000 in
theorem J_Mo_flaw (l : Launch) {G : rs_G} {Bm : Nat} {S : rs_Shp} {v0 : Nat} {x1 : Int32} {x2 : Int32} {x3 : Int32} {σ : rs_Mem} {Q : Int32 → rs_Mem → Prop} (h_v0 : rs_Ok S 11 v0) (hF : F_Mo_flaw S.2.2 v0 x1 x2 x3 σ Q) :
    Met l y_Mo_flaw (rs_ws y_Mo_flaw prog_12_method_65_code 6 (some .int)) { frames := 3, cells := 0, slots := 0, locals := 66 } (rs_P G Bm S σ [.ref (Bm + v0), .int x1, .int x2, .int x3]) (rs_Qi G Bm S Q) 0 0 (rs_A Bm) := by
  refine rs_met (own := "RouteSpeakerModel") (by decide) rfl (Nat.le_of_ble_eq_true rfl) (fun p e s m below meth c ls C hl hH hT hS => ?_)
  replace hl : lv_has ls 6 [(0, .ref (Bm + v0)), (1, .int x1), (2, .int x2), (3, .int x3)] := hl
  have hx := C.1
  have hb := C.2.1
  unfold F_Mo_flaw at hF
  refine lv_aload_n hx hb d_Mo_flaw_0 rfl (lv_at hl 0 rfl) ?_
  refine lv_iload_n hx hb d_Mo_flaw_1 rfl (lv_at hl 1 rfl) ?_
  refine rs_ci (rs_runS C hH hT hl (J_Mo_isPeer l hF) rc_Mo_isPeer tw_1031 tw_1032 rfl ⟨⟨rfl, rfl⟩, by decide, by decide, by decide⟩ (Nat.le_of_ble_eq_true rfl) rfl d_Mo_flaw_2) hS (fun x52 σ51 H locs hH hT hS hF => ?_)
  refine lv_if_eq hx hb d_Mo_flaw_5 (tgt := 20) rfl (fun hc => ?_) (fun hc => ?_)
  · replace hF := hF.1 hc
    exact JB_Mo_flaw_20 C v0 x1 x2 x3 v0 σ51 _ _ _ h_v0 h_v0 hH hT hS (lv_sub hl [0, 1, 2, 3] rfl) hF
  · replace hF := hF.2 hc
    refine lv_iload_n hx hb d_Mo_flaw_8 rfl (lv_at hl 2 rfl) ?_
    refine lv_iload_n hx hb d_Mo_flaw_9 rfl (lv_at hl 3 rfl) ?_
    refine rs_ci (rs_runS C hH hT hl (J_Mo_isPrefix l hF) rc_Mo_isPrefix tw_1136 tw_1137 rfl ⟨⟨rfl, rfl⟩, by decide, by decide, by decide⟩ (Nat.le_of_ble_eq_true rfl) rfl d_Mo_flaw_10) hS (fun x54 σ53 H locs hH hT hS hF => ?_)
    refine lv_if_eq hx hb d_Mo_flaw_13 (tgt := 20) rfl (fun hc => ?_) (fun hc => ?_)
    · replace hF := hF.1 hc
      exact JB_Mo_flaw_20 C v0 x1 x2 x3 v0 σ53 _ _ _ h_v0 h_v0 hH hT hS (lv_sub hl [0, 1, 2, 3] rfl) hF
    · replace hF := hF.2 hc
      refine lv_iconst hx hb d_Mo_flaw_16 ki_0 ?_
      refine lv_goto hx hb d_Mo_flaw_17 (tgt := 21) rfl ?_
      exact JB_Mo_flaw_21 C v0 x1 x2 x3 v0 (0 : Int32) σ53 _ _ _ h_v0 h_v0 hH hT hS (lv_sub hl [0, 1, 2, 3] rfl) hF
/-! RouteSpeakerModel.penalty(III)D -/
theorem d_Mo_penalty_0 : decode prog_12_method_66_code 0 = .ok (.aload_n 0, 1) := by decide +kernel
theorem d_Mo_penalty_1 : decode prog_12_method_66_code 1 = .ok (.iload_n 1, 1) := by decide +kernel
theorem d_Mo_penalty_2 : decode prog_12_method_66_code 2 = .ok (.invokestatic 158, 3) := by decide +kernel
theorem d_Mo_penalty_5 : decode prog_12_method_66_code 5 = .ok (.ifCond .eq (15), 3) := by decide +kernel
theorem d_Mo_penalty_8 : decode prog_12_method_66_code 8 = .ok (.iload_n 2, 1) := by decide +kernel
theorem d_Mo_penalty_9 : decode prog_12_method_66_code 9 = .ok (.iload_n 3, 1) := by decide +kernel
theorem d_Mo_penalty_10 : decode prog_12_method_66_code 10 = .ok (.invokestatic 167, 3) := by decide +kernel
theorem d_Mo_penalty_13 : decode prog_12_method_66_code 13 = .ok (.ifCond .eq (7), 3) := by decide +kernel
theorem d_Mo_penalty_16 : decode prog_12_method_66_code 16 = .ok (.iconst 0, 1) := by decide +kernel
theorem d_Mo_penalty_17 : decode prog_12_method_66_code 17 = .ok (.goto (4), 3) := by decide +kernel
theorem d_Mo_penalty_20 : decode prog_12_method_66_code 20 = .ok (.iconst 1, 1) := by decide +kernel
theorem d_Mo_penalty_21 : decode prog_12_method_66_code 21 = .ok (.putfield 126, 3) := by decide +kernel
theorem d_Mo_penalty_24 : decode prog_12_method_66_code 24 = .ok (.aload_n 0, 1) := by decide +kernel
theorem d_Mo_penalty_25 : decode prog_12_method_66_code 25 = .ok (.getfield 126, 3) := by decide +kernel
theorem d_Mo_penalty_28 : decode prog_12_method_66_code 28 = .ok (.ifCond .ne (12), 3) := by decide +kernel
theorem d_Mo_penalty_31 : decode prog_12_method_66_code 31 = .ok (.aload_n 0, 1) := by decide +kernel
theorem d_Mo_penalty_32 : decode prog_12_method_66_code 32 = .ok (.iload_n 2, 1) := by decide +kernel
theorem d_Mo_penalty_33 : decode prog_12_method_66_code 33 = .ok (.iload_n 3, 1) := by decide +kernel
theorem d_Mo_penalty_34 : decode prog_12_method_66_code 34 = .ok (.invokevirtual 137, 3) := by decide +kernel
theorem d_Mo_penalty_37 : decode prog_12_method_66_code 37 = .ok (.goto (4), 3) := by decide +kernel
theorem d_Mo_penalty_40 : decode prog_12_method_66_code 40 = .ok (.iconst (-1), 1) := by decide +kernel
theorem d_Mo_penalty_41 : decode prog_12_method_66_code 41 = .ok (.istore 4, 2) := by decide +kernel
theorem d_Mo_penalty_43 : decode prog_12_method_66_code 43 = .ok (.iload 4, 2) := by decide +kernel
theorem d_Mo_penalty_45 : decode prog_12_method_66_code 45 = .ok (.ifCond .ge (7), 3) := by decide +kernel
theorem d_Mo_penalty_48 : decode prog_12_method_66_code 48 = .ok (.dconst 0, 1) := by decide +kernel
theorem d_Mo_penalty_49 : decode prog_12_method_66_code 49 = .ok (.goto (15), 3) := by decide +kernel
theorem d_Mo_penalty_52 : decode prog_12_method_66_code 52 = .ok (.aload_n 0, 1) := by decide +kernel
theorem d_Mo_penalty_53 : decode prog_12_method_66_code 53 = .ok (.getfield 104, 3) := by decide +kernel
theorem d_Mo_penalty_56 : decode prog_12_method_66_code 56 = .ok (.bipush (12), 2) := by decide +kernel
theorem d_Mo_penalty_58 : decode prog_12_method_66_code 58 = .ok (.iload_n 1, 1) := by decide +kernel
theorem d_Mo_penalty_59 : decode prog_12_method_66_code 59 = .ok (.imul, 1) := by decide +kernel
theorem d_Mo_penalty_60 : decode prog_12_method_66_code 60 = .ok (.iload 4, 2) := by decide +kernel
theorem d_Mo_penalty_62 : decode prog_12_method_66_code 62 = .ok (.iadd, 1) := by decide +kernel
theorem d_Mo_penalty_63 : decode prog_12_method_66_code 63 = .ok (.daload, 1) := by decide +kernel
theorem d_Mo_penalty_64 : decode prog_12_method_66_code 64 = .ok (.dreturn, 1) := by decide +kernel
def B_Mo_penalty_41 (N : Nat → Nat) (Q : UInt64 → rs_Mem → Prop) (v0 : Nat) (x1 : Int32) (y0 : Int32) (σ : rs_Mem) : Prop :=
  ((0 ≤ y0 → (vp_in (((12 : Int32) * x1) + y0) (N (rs_R σ v0 34)) ∧ (Q (rs_D σ (rs_R σ v0 34) (((12 : Int32) * x1) + y0).toNatClampNeg) σ))) ∧ (¬ (0 ≤ y0) → (Q FP.dconst0 σ)))
def B_Mo_penalty_21 (N : Nat → Nat) (Q : UInt64 → rs_Mem → Prop) (v0 : Nat) (x1 : Int32) (x2 : Int32) (x3 : Int32) (w0 : Nat) (y1 : Int32) (σ : rs_Mem) : Prop :=
  (∀ σ51 : rs_Mem, σ51 = rs_sI σ w0 0 y1 → ((¬ ((rs_I σ51 v0 0) = 0) → (B_Mo_penalty_41 N Q v0 x1 (-1 : Int32) σ51)) ∧ ((rs_I σ51 v0 0) = 0 → (F_Mo_find N v0 x2 x3 σ51 (fun x53 σ52 => (B_Mo_penalty_41 N Q v0 x1 x53 σ52))))))
def B_Mo_penalty_20 (N : Nat → Nat) (Q : UInt64 → rs_Mem → Prop) (v0 : Nat) (x1 : Int32) (x2 : Int32) (x3 : Int32) (w0 : Nat) (σ : rs_Mem) : Prop :=
  (B_Mo_penalty_21 N Q v0 x1 x2 x3 w0 (1 : Int32) σ)
def F_Mo_penalty (N : Nat → Nat) (v0 : Nat) (x1 : Int32) (x2 : Int32) (x3 : Int32) (σ : rs_Mem) (Q : UInt64 → rs_Mem → Prop) : Prop :=
  (F_Mo_isPeer N x1 σ (fun x52 σ51 => ((x52 = 0 → (B_Mo_penalty_20 N Q v0 x1 x2 x3 v0 σ51)) ∧ (¬ (x52 = 0) → (F_Mo_isPrefix N x2 x3 σ51 (fun x54 σ53 => ((x54 = 0 → (B_Mo_penalty_20 N Q v0 x1 x2 x3 v0 σ53)) ∧ (¬ (x54 = 0) → (B_Mo_penalty_21 N Q v0 x1 x2 x3 v0 (0 : Int32) σ53)))))))))
set_option maxRecDepth 20000 in
theorem JB_Mo_penalty_41 {p : Program} {l : Launch} {e : Env} {s : State} {m : MethodId} {args : Array Value} {below : List Frame} {meth : Method} {c : Code} {G : rs_G} {Bm : Nat} {S : rs_Shp} {Q : UInt64 → rs_Mem → Prop} (C : rs_C "RouteSpeakerModel" prog_12_method_66_code 5 (some .double) G p s m meth c args) (v0 : Nat) (x1 : Int32) (y0 : Int32) (σ : rs_Mem) (H : Heap) (locs : List Loc) (ls : Array Slot) (h_v0 : rs_Ok S 11 v0) (hH : rs_H G Bm S σ H) (hT : rs_T S σ) (hS : va_S (rs_A Bm) s.heap H locs) (hl : lv_has ls 5 [(0, .ref (Bm + v0)), (1, .int x1)]) (hF : B_Mo_penalty_41 S.2.2 Q v0 x1 y0 σ) :
    W p l e { frames := 2, cells := 0, slots := 0, locals := 41 } s m args below meth c H locs 0 0 (MQ below (rs_Qd G Bm S Q) args s 0 0 (rs_A Bm)) (F0 m 41 ls [.int y0]) := by
  have hx := C.1
  have hb := C.2.1
  unfold B_Mo_penalty_41 at hF
  refine lv_istore hx hb d_Mo_penalty_41 hl (by decide) (lv' := [(4, .int y0), (0, .ref (Bm + v0)), (1, .int x1)]) rfl (fun ls hl => ?_)
  refine lv_iload hx hb d_Mo_penalty_43 (lv_at hl 0 rfl) ?_
  refine lv_if_ge hx hb d_Mo_penalty_45 (tgt := 52) rfl (fun hc => ?_) (fun hc => ?_)
  · replace hF := hF.1 hc
    refine lv_aload_n hx hb d_Mo_penalty_52 rfl (lv_at hl 1 rfl) ?_
    refine rs_getR C hH hT h_v0 fk_11_34 tw_933 d_Mo_penalty_53 (fun h51 => ?_)
    refine lv_bipush hx hb d_Mo_penalty_56 kb_12 ?_
    refine lv_iload_n hx hb d_Mo_penalty_58 rfl (lv_at hl 2 rfl) ?_
    refine lv_imul hx hb d_Mo_penalty_59 ?_
    refine lv_iload hx hb d_Mo_penalty_60 (lv_at hl 0 rfl) ?_
    refine lv_iadd hx hb d_Mo_penalty_62 ?_
    obtain ⟨g52, hF⟩ := hF
    refine rs_dald C hH h51 g52 d_Mo_penalty_63 ?_
    exact rs_dret C hH hT hS hF d_Mo_penalty_64
  · replace hF := hF.2 hc
    refine lv_dconst0 hx hb d_Mo_penalty_48 ?_
    refine lv_goto hx hb d_Mo_penalty_49 (tgt := 64) rfl ?_
    exact rs_dret C hH hT hS hF d_Mo_penalty_64
set_option maxRecDepth 20000 in
theorem JB_Mo_penalty_21 {p : Program} {l : Launch} {e : Env} {s : State} {m : MethodId} {args : Array Value} {below : List Frame} {meth : Method} {c : Code} {G : rs_G} {Bm : Nat} {S : rs_Shp} {Q : UInt64 → rs_Mem → Prop} (C : rs_C "RouteSpeakerModel" prog_12_method_66_code 5 (some .double) G p s m meth c args) (v0 : Nat) (x1 : Int32) (x2 : Int32) (x3 : Int32) (w0 : Nat) (y1 : Int32) (σ : rs_Mem) (H : Heap) (locs : List Loc) (ls : Array Slot) (h_v0 : rs_Ok S 11 v0) (h_w0 : rs_Ok S 11 w0) (hH : rs_H G Bm S σ H) (hT : rs_T S σ) (hS : va_S (rs_A Bm) s.heap H locs) (hl : lv_has ls 5 [(0, .ref (Bm + v0)), (1, .int x1), (2, .int x2), (3, .int x3)]) (hF : B_Mo_penalty_21 S.2.2 Q v0 x1 x2 x3 w0 y1 σ) :
    W p l e { frames := 2, cells := 0, slots := 0, locals := 41 } s m args below meth c H locs 0 0 (MQ below (rs_Qd G Bm S Q) args s 0 0 (rs_A Bm)) (F0 m 21 ls [.int y1, .ref (Bm + w0)]) := by
  have hx := C.1
  have hb := C.2.1
  unfold B_Mo_penalty_21 at hF
  refine rs_putI C hH hT hS h_w0 fk_11_0 rfl tw_899 d_Mo_penalty_21 (fun σ51 H locs eσ51 hH hT hS => ?_)
  replace hF := hF σ51 eσ51
  refine lv_aload_n hx hb d_Mo_penalty_24 rfl (lv_at hl 0 rfl) ?_
  refine rs_getI C hH h_v0 fk_11_0 tw_899 d_Mo_penalty_25 ?_
  refine lv_if_ne hx hb d_Mo_penalty_28 (tgt := 40) rfl (fun hc => ?_) (fun hc => ?_)
  · replace hF := hF.1 hc
    refine lv_iconst hx hb d_Mo_penalty_40 ki_m1 ?_
    exact JB_Mo_penalty_41 C v0 x1 (-1 : Int32) σ51 _ _ _ h_v0 hH hT hS (lv_sub hl [0, 1] rfl) hF
  · replace hF := hF.2 hc
    refine lv_aload_n hx hb d_Mo_penalty_31 rfl (lv_at hl 0 rfl) ?_
    refine lv_iload_n hx hb d_Mo_penalty_32 rfl (lv_at hl 2 rfl) ?_
    refine lv_iload_n hx hb d_Mo_penalty_33 rfl (lv_at hl 3 rfl) ?_
    refine rs_ci (rs_runV C hH hT hl (J_Mo_find l h_v0 hF) rc_Mo_find tw_1151 tw_1153 ts_56 h_v0 ⟨rfl, by decide, by decide⟩ rfl ⟨⟨rfl, rfl⟩, by decide, by decide, by decide⟩ (Nat.le_of_ble_eq_true rfl) rfl d_Mo_penalty_34) hS (fun x53 σ52 H locs hH hT hS hF => ?_)
    refine lv_goto hx hb d_Mo_penalty_37 (tgt := 41) rfl ?_
    exact JB_Mo_penalty_41 C v0 x1 x53 σ52 _ _ _ h_v0 hH hT hS (lv_sub hl [0, 1] rfl) hF
set_option maxRecDepth 20000 in
theorem JB_Mo_penalty_20 {p : Program} {l : Launch} {e : Env} {s : State} {m : MethodId} {args : Array Value} {below : List Frame} {meth : Method} {c : Code} {G : rs_G} {Bm : Nat} {S : rs_Shp} {Q : UInt64 → rs_Mem → Prop} (C : rs_C "RouteSpeakerModel" prog_12_method_66_code 5 (some .double) G p s m meth c args) (v0 : Nat) (x1 : Int32) (x2 : Int32) (x3 : Int32) (w0 : Nat) (σ : rs_Mem) (H : Heap) (locs : List Loc) (ls : Array Slot) (h_v0 : rs_Ok S 11 v0) (h_w0 : rs_Ok S 11 w0) (hH : rs_H G Bm S σ H) (hT : rs_T S σ) (hS : va_S (rs_A Bm) s.heap H locs) (hl : lv_has ls 5 [(0, .ref (Bm + v0)), (1, .int x1), (2, .int x2), (3, .int x3)]) (hF : B_Mo_penalty_20 S.2.2 Q v0 x1 x2 x3 w0 σ) :
    W p l e { frames := 2, cells := 0, slots := 0, locals := 41 } s m args below meth c H locs 0 0 (MQ below (rs_Qd G Bm S Q) args s 0 0 (rs_A Bm)) (F0 m 20 ls [.ref (Bm + w0)]) := by
  have hx := C.1
  have hb := C.2.1
  unfold B_Mo_penalty_20 at hF
  refine lv_iconst hx hb d_Mo_penalty_20 ki_1 ?_
  exact JB_Mo_penalty_21 C v0 x1 x2 x3 w0 (1 : Int32) σ _ _ _ h_v0 h_w0 hH hT hS (lv_sub hl [0, 1, 2, 3] rfl) hF
abbrev y_Mo_penalty : MethodName := ({ cls := "RouteSpeakerModel", name := "penalty", desc := "(III)D" } : Jvm.MethodName)
theorem rc_Mo_penalty : rs_Cal y_Mo_penalty prog_12_method_66_code 5 (some .double) 3 := ⟨tw_1283, tw_11, by decide, by decide, by decide +kernel⟩
set_option maxRecDepth 20000 in
theorem J_Mo_penalty (l : Launch) {G : rs_G} {Bm : Nat} {S : rs_Shp} {v0 : Nat} {x1 : Int32} {x2 : Int32} {x3 : Int32} {σ : rs_Mem} {Q : UInt64 → rs_Mem → Prop} (h_v0 : rs_Ok S 11 v0) (hF : F_Mo_penalty S.2.2 v0 x1 x2 x3 σ Q) :
    Met l y_Mo_penalty (rs_ws y_Mo_penalty prog_12_method_66_code 5 (some .double)) { frames := 2, cells := 0, slots := 0, locals := 41 } (rs_P G Bm S σ [.ref (Bm + v0), .int x1, .int x2, .int x3]) (rs_Qd G Bm S Q) 0 0 (rs_A Bm) := by
  refine rs_met (own := "RouteSpeakerModel") (by decide) rfl (Nat.le_of_ble_eq_true rfl) (fun p e s m below meth c ls C hl hH hT hS => ?_)
  replace hl : lv_has ls 5 [(0, .ref (Bm + v0)), (1, .int x1), (2, .int x2), (3, .int x3)] := hl
  have hx := C.1
  have hb := C.2.1
  unfold F_Mo_penalty at hF
  refine lv_aload_n hx hb d_Mo_penalty_0 rfl (lv_at hl 0 rfl) ?_
  refine lv_iload_n hx hb d_Mo_penalty_1 rfl (lv_at hl 1 rfl) ?_
  refine rs_ci (rs_runS C hH hT hl (J_Mo_isPeer l hF) rc_Mo_isPeer tw_1031 tw_1032 rfl ⟨⟨rfl, rfl⟩, by decide, by decide, by decide⟩ (Nat.le_of_ble_eq_true rfl) rfl d_Mo_penalty_2) hS (fun x52 σ51 H locs hH hT hS hF => ?_)
  refine lv_if_eq hx hb d_Mo_penalty_5 (tgt := 20) rfl (fun hc => ?_) (fun hc => ?_)
  · replace hF := hF.1 hc
    exact JB_Mo_penalty_20 C v0 x1 x2 x3 v0 σ51 _ _ _ h_v0 h_v0 hH hT hS (lv_sub hl [0, 1, 2, 3] rfl) hF
  · replace hF := hF.2 hc
    refine lv_iload_n hx hb d_Mo_penalty_8 rfl (lv_at hl 2 rfl) ?_
    refine lv_iload_n hx hb d_Mo_penalty_9 rfl (lv_at hl 3 rfl) ?_
    refine rs_ci (rs_runS C hH hT hl (J_Mo_isPrefix l hF) rc_Mo_isPrefix tw_1136 tw_1137 rfl ⟨⟨rfl, rfl⟩, by decide, by decide, by decide⟩ (Nat.le_of_ble_eq_true rfl) rfl d_Mo_penalty_10) hS (fun x54 σ53 H locs hH hT hS hF => ?_)
    refine lv_if_eq hx hb d_Mo_penalty_13 (tgt := 20) rfl (fun hc => ?_) (fun hc => ?_)
    · replace hF := hF.1 hc
      exact JB_Mo_penalty_20 C v0 x1 x2 x3 v0 σ53 _ _ _ h_v0 h_v0 hH hT hS (lv_sub hl [0, 1, 2, 3] rfl) hF
    · replace hF := hF.2 hc
      refine lv_iconst hx hb d_Mo_penalty_16 ki_0 ?_
      refine lv_goto hx hb d_Mo_penalty_17 (tgt := 21) rfl ?_
      exact JB_Mo_penalty_21 C v0 x1 x2 x3 v0 (0 : Int32) σ53 _ _ _ h_v0 h_v0 hH hT hS (lv_sub hl [0, 1, 2, 3] rfl) hF
/-! RouteSpeakerModel.forward(I)I -/
theorem d_Mo_forward_0 : decode prog_12_method_67_code 0 = .ok (.aload_n 0, 1) := by decide +kernel
theorem d_Mo_forward_1 : decode prog_12_method_67_code 1 = .ok (.iconst 0, 1) := by decide +kernel
theorem d_Mo_forward_2 : decode prog_12_method_67_code 2 = .ok (.putfield 126, 3) := by decide +kernel
theorem d_Mo_forward_5 : decode prog_12_method_67_code 5 = .ok (.iload_n 1, 1) := by decide +kernel
theorem d_Mo_forward_6 : decode prog_12_method_67_code 6 = .ok (.ifCond .lt (10), 3) := by decide +kernel
theorem d_Mo_forward_9 : decode prog_12_method_67_code 9 = .ok (.iload_n 1, 1) := by decide +kernel
theorem d_Mo_forward_10 : decode prog_12_method_67_code 10 = .ok (.sipush (255), 3) := by decide +kernel
theorem d_Mo_forward_13 : decode prog_12_method_67_code 13 = .ok (.if_icmp .le (9), 3) := by decide +kernel
theorem d_Mo_forward_16 : decode prog_12_method_67_code 16 = .ok (.aload_n 0, 1) := by decide +kernel
theorem d_Mo_forward_17 : decode prog_12_method_67_code 17 = .ok (.iconst 1, 1) := by decide +kernel
theorem d_Mo_forward_18 : decode prog_12_method_67_code 18 = .ok (.invokevirtual 304, 3) := by decide +kernel
theorem d_Mo_forward_21 : decode prog_12_method_67_code 21 = .ok (.ireturn, 1) := by decide +kernel
theorem d_Mo_forward_22 : decode prog_12_method_67_code 22 = .ok (.iconst (-1), 1) := by decide +kernel
theorem d_Mo_forward_23 : decode prog_12_method_67_code 23 = .ok (.istore_n 2, 1) := by decide +kernel
theorem d_Mo_forward_24 : decode prog_12_method_67_code 24 = .ok (.iconst 0, 1) := by decide +kernel
theorem d_Mo_forward_25 : decode prog_12_method_67_code 25 = .ok (.istore_n 3, 1) := by decide +kernel
theorem d_Mo_forward_26 : decode prog_12_method_67_code 26 = .ok (.iload_n 3, 1) := by decide +kernel
theorem d_Mo_forward_27 : decode prog_12_method_67_code 27 = .ok (.aload_n 0, 1) := by decide +kernel
theorem d_Mo_forward_28 : decode prog_12_method_67_code 28 = .ok (.getfield 134, 3) := by decide +kernel
theorem d_Mo_forward_31 : decode prog_12_method_67_code 31 = .ok (.if_icmp .ge (75), 3) := by decide +kernel
theorem d_Mo_forward_34 : decode prog_12_method_67_code 34 = .ok (.bipush (8), 2) := by decide +kernel
theorem d_Mo_forward_36 : decode prog_12_method_67_code 36 = .ok (.iload_n 1, 1) := by decide +kernel
theorem d_Mo_forward_37 : decode prog_12_method_67_code 37 = .ok (.aload_n 0, 1) := by decide +kernel
theorem d_Mo_forward_38 : decode prog_12_method_67_code 38 = .ok (.getfield 67, 3) := by decide +kernel
theorem d_Mo_forward_41 : decode prog_12_method_67_code 41 = .ok (.iload_n 3, 1) := by decide +kernel
theorem d_Mo_forward_42 : decode prog_12_method_67_code 42 = .ok (.iaload, 1) := by decide +kernel
theorem d_Mo_forward_43 : decode prog_12_method_67_code 43 = .ok (.aload_n 0, 1) := by decide +kernel
theorem d_Mo_forward_44 : decode prog_12_method_67_code 44 = .ok (.getfield 70, 3) := by decide +kernel
theorem d_Mo_forward_47 : decode prog_12_method_67_code 47 = .ok (.iload_n 3, 1) := by decide +kernel
theorem d_Mo_forward_48 : decode prog_12_method_67_code 48 = .ok (.iaload, 1) := by decide +kernel
theorem d_Mo_forward_49 : decode prog_12_method_67_code 49 = .ok (.invokestatic 251, 3) := by decide +kernel
theorem d_Mo_forward_52 : decode prog_12_method_67_code 52 = .ok (.ifCond .eq (15), 3) := by decide +kernel
theorem d_Mo_forward_55 : decode prog_12_method_67_code 55 = .ok (.aload_n 0, 1) := by decide +kernel
theorem d_Mo_forward_56 : decode prog_12_method_67_code 56 = .ok (.iload_n 3, 1) := by decide +kernel
theorem d_Mo_forward_57 : decode prog_12_method_67_code 57 = .ok (.invokevirtual 283, 3) := by decide +kernel
theorem d_Mo_forward_60 : decode prog_12_method_67_code 60 = .ok (.ifCond .lt (7), 3) := by decide +kernel
theorem d_Mo_forward_63 : decode prog_12_method_67_code 63 = .ok (.iconst 1, 1) := by decide +kernel
theorem d_Mo_forward_64 : decode prog_12_method_67_code 64 = .ok (.goto (4), 3) := by decide +kernel
theorem d_Mo_forward_67 : decode prog_12_method_67_code 67 = .ok (.iconst 0, 1) := by decide +kernel
theorem d_Mo_forward_68 : decode prog_12_method_67_code 68 = .ok (.istore 4, 2) := by decide +kernel
theorem d_Mo_forward_70 : decode prog_12_method_67_code 70 = .ok (.iload 4, 2) := by decide +kernel
theorem d_Mo_forward_72 : decode prog_12_method_67_code 72 = .ok (.ifCond .eq (26), 3) := by decide +kernel
theorem d_Mo_forward_75 : decode prog_12_method_67_code 75 = .ok (.iload_n 2, 1) := by decide +kernel
theorem d_Mo_forward_76 : decode prog_12_method_67_code 76 = .ok (.ifCond .lt (18), 3) := by decide +kernel
theorem d_Mo_forward_79 : decode prog_12_method_67_code 79 = .ok (.aload_n 0, 1) := by decide +kernel
theorem d_Mo_forward_80 : decode prog_12_method_67_code 80 = .ok (.getfield 67, 3) := by decide +kernel
theorem d_Mo_forward_83 : decode prog_12_method_67_code 83 = .ok (.iload_n 3, 1) := by decide +kernel
theorem d_Mo_forward_84 : decode prog_12_method_67_code 84 = .ok (.iaload, 1) := by decide +kernel
theorem d_Mo_forward_85 : decode prog_12_method_67_code 85 = .ok (.aload_n 0, 1) := by decide +kernel
theorem d_Mo_forward_86 : decode prog_12_method_67_code 86 = .ok (.getfield 67, 3) := by decide +kernel
theorem d_Mo_forward_89 : decode prog_12_method_67_code 89 = .ok (.iload_n 2, 1) := by decide +kernel
theorem d_Mo_forward_90 : decode prog_12_method_67_code 90 = .ok (.iaload, 1) := by decide +kernel
theorem d_Mo_forward_91 : decode prog_12_method_67_code 91 = .ok (.if_icmp .le (7), 3) := by decide +kernel
theorem d_Mo_forward_94 : decode prog_12_method_67_code 94 = .ok (.iload_n 3, 1) := by decide +kernel
theorem d_Mo_forward_95 : decode prog_12_method_67_code 95 = .ok (.goto (4), 3) := by decide +kernel
theorem d_Mo_forward_98 : decode prog_12_method_67_code 98 = .ok (.iload_n 2, 1) := by decide +kernel
theorem d_Mo_forward_99 : decode prog_12_method_67_code 99 = .ok (.istore_n 2, 1) := by decide +kernel
theorem d_Mo_forward_100 : decode prog_12_method_67_code 100 = .ok (.iinc 3 (1), 3) := by decide +kernel
theorem d_Mo_forward_103 : decode prog_12_method_67_code 103 = .ok (.goto (-77), 3) := by decide +kernel
theorem d_Mo_forward_106 : decode prog_12_method_67_code 106 = .ok (.iload_n 2, 1) := by decide +kernel
theorem d_Mo_forward_107 : decode prog_12_method_67_code 107 = .ok (.ifCond .ge (11), 3) := by decide +kernel
theorem d_Mo_forward_110 : decode prog_12_method_67_code 110 = .ok (.aload_n 0, 1) := by decide +kernel
theorem d_Mo_forward_111 : decode prog_12_method_67_code 111 = .ok (.iconst 2, 1) := by decide +kernel
theorem d_Mo_forward_112 : decode prog_12_method_67_code 112 = .ok (.invokevirtual 304, 3) := by decide +kernel
theorem d_Mo_forward_115 : decode prog_12_method_67_code 115 = .ok (.goto (8), 3) := by decide +kernel
theorem d_Mo_forward_118 : decode prog_12_method_67_code 118 = .ok (.aload_n 0, 1) := by decide +kernel
theorem d_Mo_forward_119 : decode prog_12_method_67_code 119 = .ok (.iload_n 2, 1) := by decide +kernel
theorem d_Mo_forward_120 : decode prog_12_method_67_code 120 = .ok (.invokevirtual 283, 3) := by decide +kernel
theorem d_Mo_forward_123 : decode prog_12_method_67_code 123 = .ok (.ireturn, 1) := by decide +kernel
def B_Mo_forward_16 (N : Nat → Nat) (Q : Int32 → rs_Mem → Prop) (v0 : Nat) (σ : rs_Mem) : Prop :=
  (F_Mo_fails N v0 (1 : Int32) σ (fun x52 σ51 => (Q x52 σ51)))
def B_Mo_forward_98 (N : Nat → Nat) (K26 : Nat → Int32 → Int32 → Int32 → rs_Mem → Prop) (Q : Int32 → rs_Mem → Prop) (v0 : Nat) (x1 : Int32) (x2 : Int32) (x3 : Int32) (σ : rs_Mem) : Prop :=
  (∀ x51 : Int32, x51 = x3 + (1 : Int32) → (K26 v0 x1 x2 x51 σ))
def B_Mo_forward_94 (N : Nat → Nat) (K26 : Nat → Int32 → Int32 → Int32 → rs_Mem → Prop) (Q : Int32 → rs_Mem → Prop) (v0 : Nat) (x1 : Int32) (x3 : Int32) (σ : rs_Mem) : Prop :=
  (∀ x51 : Int32, x51 = x3 + (1 : Int32) → (K26 v0 x1 x3 x51 σ))
def B_Mo_forward_68 (N : Nat → Nat) (K26 : Nat → Int32 → Int32 → Int32 → rs_Mem → Prop) (Q : Int32 → rs_Mem → Prop) (v0 : Nat) (x1 : Int32) (x2 : Int32) (x3 : Int32) (y0 : Int32) (σ : rs_Mem) : Prop :=
  ((y0 = 0 → (B_Mo_forward_98 N K26 Q v0 x1 x2 x3 σ)) ∧ (¬ (y0 = 0) → ((x2 < 0 → (B_Mo_forward_94 N K26 Q v0 x1 x3 σ)) ∧ (¬ (x2 < 0) → (vp_in x3 (N (rs_R σ v0 22)) ∧ (vp_in x2 (N (rs_R σ v0 22)) ∧ (((rs_I σ (rs_R σ v0 22) x3.toNatClampNeg) ≤ (rs_I σ (rs_R σ v0 22) x2.toNatClampNeg) → (B_Mo_forward_98 N K26 Q v0 x1 x2 x3 σ)) ∧ (¬ ((rs_I σ (rs_R σ v0 22) x3.toNatClampNeg) ≤ (rs_I σ (rs_R σ v0 22) x2.toNatClampNeg)) → (B_Mo_forward_94 N K26 Q v0 x1 x3 σ)))))))))
def B_Mo_forward_67 (N : Nat → Nat) (K26 : Nat → Int32 → Int32 → Int32 → rs_Mem → Prop) (Q : Int32 → rs_Mem → Prop) (v0 : Nat) (x1 : Int32) (x2 : Int32) (x3 : Int32) (σ : rs_Mem) : Prop :=
  (B_Mo_forward_68 N K26 Q v0 x1 x2 x3 (0 : Int32) σ)
def G_Mo_forward_26 (N : Nat → Nat) (Q : Int32 → rs_Mem → Prop) (K26 : Nat → Int32 → Int32 → Int32 → rs_Mem → Prop) (v0 : Nat) (x1 : Int32) (x2 : Int32) (x3 : Int32) (σ : rs_Mem) : Prop :=
  (((rs_I σ v0 21) ≤ x3 → ((0 ≤ x2 → (F_Mo_bestOf N v0 x2 σ (fun x52 σ51 => (Q x52 σ51)))) ∧ (¬ (0 ≤ x2) → (F_Mo_fails N v0 (2 : Int32) σ (fun x52 σ51 => (Q x52 σ51)))))) ∧ (¬ ((rs_I σ v0 21) ≤ x3) → (vp_in x3 (N (rs_R σ v0 22)) ∧ (vp_in x3 (N (rs_R σ v0 23)) ∧ (F_Mo_isWithin N (8 : Int32) x1 (rs_I σ (rs_R σ v0 22) x3.toNatClampNeg) (rs_I σ (rs_R σ v0 23) x3.toNatClampNeg) σ (fun x56 σ55 => ((x56 = 0 → (B_Mo_forward_67 N K26 Q v0 x1 x2 x3 σ55)) ∧ (¬ (x56 = 0) → (F_Mo_bestOf N v0 x3 σ55 (fun x58 σ57 => ((x58 < 0 → (B_Mo_forward_67 N K26 Q v0 x1 x2 x3 σ57)) ∧ (¬ (x58 < 0) → (B_Mo_forward_68 N K26 Q v0 x1 x2 x3 (1 : Int32) σ57)))))))))))))
noncomputable def L_Mo_forward_26 (N : Nat → Nat) (Q : Int32 → rs_Mem → Prop) (n : Nat) : Nat → Int32 → Int32 → Int32 → rs_Mem → Prop := Nat.rec (motive := fun _ => Nat → Int32 → Int32 → Int32 → rs_Mem → Prop) (fun _ _ _ _ _ => False) (fun _ K => G_Mo_forward_26 N Q K) n
def F_Mo_forward (N : Nat → Nat) (v0 : Nat) (x1 : Int32) (σ : rs_Mem) (Q : Int32 → rs_Mem → Prop) : Prop :=
  (∀ σ51 : rs_Mem, σ51 = rs_sI σ v0 0 (0 : Int32) → ((x1 < 0 → (B_Mo_forward_16 N Q v0 σ51)) ∧ (¬ (x1 < 0) → ((x1 ≤ (255 : Int32) → (∃ n : Nat, L_Mo_forward_26 N Q n v0 x1 (-1 : Int32) (0 : Int32) σ51)) ∧ (¬ (x1 ≤ (255 : Int32)) → (B_Mo_forward_16 N Q v0 σ51))))))
set_option maxRecDepth 20000 in
theorem JB_Mo_forward_16 {p : Program} {l : Launch} {e : Env} {s : State} {m : MethodId} {args : Array Value} {below : List Frame} {meth : Method} {c : Code} {G : rs_G} {Bm : Nat} {S : rs_Shp} {Q : Int32 → rs_Mem → Prop} (C : rs_C "RouteSpeakerModel" prog_12_method_67_code 5 (some .int) G p s m meth c args) (v0 : Nat) (σ : rs_Mem) (H : Heap) (locs : List Loc) (ls : Array Slot) (h_v0 : rs_Ok S 11 v0) (hH : rs_H G Bm S σ H) (hT : rs_T S σ) (hS : va_S (rs_A Bm) s.heap H locs) (hl : lv_has ls 5 [(0, .ref (Bm + v0))]) (hF : B_Mo_forward_16 S.2.2 Q v0 σ) :
    W p l e { frames := 6, cells := 0, slots := 0, locals := 138 } s m args below meth c H locs 0 0 (MQ below (rs_Qi G Bm S Q) args s 0 0 (rs_A Bm)) (F0 m 16 ls []) := by
  have hx := C.1
  have hb := C.2.1
  unfold B_Mo_forward_16 at hF
  refine lv_aload_n hx hb d_Mo_forward_16 rfl (lv_at hl 0 rfl) ?_
  refine lv_iconst hx hb d_Mo_forward_17 ki_1 ?_
  refine rs_ci (rs_runV C hH hT hl (J_Mo_fails l h_v0 hF) rc_Mo_fails tw_1272 tw_1274 ts_76 h_v0 ⟨rfl, by decide, by decide⟩ rfl ⟨⟨rfl, rfl⟩, by decide, by decide, by decide⟩ (Nat.le_of_ble_eq_true rfl) rfl d_Mo_forward_18) hS (fun x52 σ51 H locs hH hT hS hF => ?_)
  exact rs_iret C hH hT hS hF d_Mo_forward_21
set_option maxRecDepth 20000 in
theorem JB_Mo_forward_98 {p : Program} {l : Launch} {e : Env} {s : State} {m : MethodId} {args : Array Value} {below : List Frame} {meth : Method} {c : Code} {G : rs_G} {Bm : Nat} {S : rs_Shp} {K26 : Nat → Int32 → Int32 → Int32 → rs_Mem → Prop} {Q : Int32 → rs_Mem → Prop} (C : rs_C "RouteSpeakerModel" prog_12_method_67_code 5 (some .int) G p s m meth c args) (hK26 : ∀ (v0 : Nat) (x1 : Int32) (x2 : Int32) (x3 : Int32) (σ : rs_Mem) (H : Heap) (locs : List Loc) (ls : Array Slot), rs_Ok S 11 v0 → rs_H G Bm S σ H → rs_T S σ → va_S (rs_A Bm) s.heap H locs → lv_has ls 5 [(0, .ref (Bm + v0)), (1, .int x1), (2, .int x2), (3, .int x3)] → K26 v0 x1 x2 x3 σ → W p l e { frames := 6, cells := 0, slots := 0, locals := 138 } s m args below meth c H locs 0 0 (MQ below (rs_Qi G Bm S Q) args s 0 0 (rs_A Bm)) (F0 m 26 ls [])) (v0 : Nat) (x1 : Int32) (x2 : Int32) (x3 : Int32) (σ : rs_Mem) (H : Heap) (locs : List Loc) (ls : Array Slot) (h_v0 : rs_Ok S 11 v0) (hH : rs_H G Bm S σ H) (hT : rs_T S σ) (hS : va_S (rs_A Bm) s.heap H locs) (hl : lv_has ls 5 [(0, .ref (Bm + v0)), (1, .int x1), (2, .int x2), (3, .int x3)]) (hF : B_Mo_forward_98 S.2.2 K26 Q v0 x1 x2 x3 σ) :
    W p l e { frames := 6, cells := 0, slots := 0, locals := 138 } s m args below meth c H locs 0 0 (MQ below (rs_Qi G Bm S Q) args s 0 0 (rs_A Bm)) (F0 m 98 ls []) := by
  have hx := C.1
  have hb := C.2.1
  unfold B_Mo_forward_98 at hF
  refine lv_iload_n hx hb d_Mo_forward_98 rfl (lv_at hl 2 rfl) ?_
  refine lv_istore_n hx hb d_Mo_forward_99 rfl hl (by decide) (lv' := [(2, .int x2), (0, .ref (Bm + v0)), (1, .int x1), (3, .int x3)]) rfl (fun ls hl => ?_)
  obtain ⟨x51, ex51⟩ : ∃ z : Int32, z = x3 + (1 : Int32) := ⟨_, rfl⟩
  replace hF := hF x51 ex51
  refine lv_iinc hx hb d_Mo_forward_100 hl (k := 3) rfl (v := x51) (by rw [ki_1, ex51]) (by decide) (lv' := [(3, .int x51), (2, .int x2), (0, .ref (Bm + v0)), (1, .int x1)]) rfl (fun ls hl => ?_)
  refine lv_goto hx hb d_Mo_forward_103 (tgt := 26) rfl ?_
  exact hK26 v0 x1 x2 x51 σ _ _ _ h_v0 hH hT hS (lv_sub hl [2, 3, 1, 0] rfl) hF
set_option maxRecDepth 20000 in
theorem JB_Mo_forward_94 {p : Program} {l : Launch} {e : Env} {s : State} {m : MethodId} {args : Array Value} {below : List Frame} {meth : Method} {c : Code} {G : rs_G} {Bm : Nat} {S : rs_Shp} {K26 : Nat → Int32 → Int32 → Int32 → rs_Mem → Prop} {Q : Int32 → rs_Mem → Prop} (C : rs_C "RouteSpeakerModel" prog_12_method_67_code 5 (some .int) G p s m meth c args) (hK26 : ∀ (v0 : Nat) (x1 : Int32) (x2 : Int32) (x3 : Int32) (σ : rs_Mem) (H : Heap) (locs : List Loc) (ls : Array Slot), rs_Ok S 11 v0 → rs_H G Bm S σ H → rs_T S σ → va_S (rs_A Bm) s.heap H locs → lv_has ls 5 [(0, .ref (Bm + v0)), (1, .int x1), (2, .int x2), (3, .int x3)] → K26 v0 x1 x2 x3 σ → W p l e { frames := 6, cells := 0, slots := 0, locals := 138 } s m args below meth c H locs 0 0 (MQ below (rs_Qi G Bm S Q) args s 0 0 (rs_A Bm)) (F0 m 26 ls [])) (v0 : Nat) (x1 : Int32) (x3 : Int32) (σ : rs_Mem) (H : Heap) (locs : List Loc) (ls : Array Slot) (h_v0 : rs_Ok S 11 v0) (hH : rs_H G Bm S σ H) (hT : rs_T S σ) (hS : va_S (rs_A Bm) s.heap H locs) (hl : lv_has ls 5 [(0, .ref (Bm + v0)), (1, .int x1), (3, .int x3)]) (hF : B_Mo_forward_94 S.2.2 K26 Q v0 x1 x3 σ) :
    W p l e { frames := 6, cells := 0, slots := 0, locals := 138 } s m args below meth c H locs 0 0 (MQ below (rs_Qi G Bm S Q) args s 0 0 (rs_A Bm)) (F0 m 94 ls []) := by
  have hx := C.1
  have hb := C.2.1
  unfold B_Mo_forward_94 at hF
  refine lv_iload_n hx hb d_Mo_forward_94 rfl (lv_at hl 2 rfl) ?_
  refine lv_goto hx hb d_Mo_forward_95 (tgt := 99) rfl ?_
  refine lv_istore_n hx hb d_Mo_forward_99 rfl hl (by decide) (lv' := [(2, .int x3), (0, .ref (Bm + v0)), (1, .int x1), (3, .int x3)]) rfl (fun ls hl => ?_)
  obtain ⟨x51, ex51⟩ : ∃ z : Int32, z = x3 + (1 : Int32) := ⟨_, rfl⟩
  replace hF := hF x51 ex51
  refine lv_iinc hx hb d_Mo_forward_100 hl (k := 3) rfl (v := x51) (by rw [ki_1, ex51]) (by decide) (lv' := [(3, .int x51), (2, .int x3), (0, .ref (Bm + v0)), (1, .int x1)]) rfl (fun ls hl => ?_)
  refine lv_goto hx hb d_Mo_forward_103 (tgt := 26) rfl ?_
  exact hK26 v0 x1 x3 x51 σ _ _ _ h_v0 hH hT hS (lv_sub hl [2, 3, 1, 0] rfl) hF
set_option maxRecDepth 20000 in
theorem JB_Mo_forward_68 {p : Program} {l : Launch} {e : Env} {s : State} {m : MethodId} {args : Array Value} {below : List Frame} {meth : Method} {c : Code} {G : rs_G} {Bm : Nat} {S : rs_Shp} {K26 : Nat → Int32 → Int32 → Int32 → rs_Mem → Prop} {Q : Int32 → rs_Mem → Prop} (C : rs_C "RouteSpeakerModel" prog_12_method_67_code 5 (some .int) G p s m meth c args) (hK26 : ∀ (v0 : Nat) (x1 : Int32) (x2 : Int32) (x3 : Int32) (σ : rs_Mem) (H : Heap) (locs : List Loc) (ls : Array Slot), rs_Ok S 11 v0 → rs_H G Bm S σ H → rs_T S σ → va_S (rs_A Bm) s.heap H locs → lv_has ls 5 [(0, .ref (Bm + v0)), (1, .int x1), (2, .int x2), (3, .int x3)] → K26 v0 x1 x2 x3 σ → W p l e { frames := 6, cells := 0, slots := 0, locals := 138 } s m args below meth c H locs 0 0 (MQ below (rs_Qi G Bm S Q) args s 0 0 (rs_A Bm)) (F0 m 26 ls [])) (v0 : Nat) (x1 : Int32) (x2 : Int32) (x3 : Int32) (y0 : Int32) (σ : rs_Mem) (H : Heap) (locs : List Loc) (ls : Array Slot) (h_v0 : rs_Ok S 11 v0) (hH : rs_H G Bm S σ H) (hT : rs_T S σ) (hS : va_S (rs_A Bm) s.heap H locs) (hl : lv_has ls 5 [(0, .ref (Bm + v0)), (1, .int x1), (2, .int x2), (3, .int x3)]) (hF : B_Mo_forward_68 S.2.2 K26 Q v0 x1 x2 x3 y0 σ) :
    W p l e { frames := 6, cells := 0, slots := 0, locals := 138 } s m args below meth c H locs 0 0 (MQ below (rs_Qi G Bm S Q) args s 0 0 (rs_A Bm)) (F0 m 68 ls [.int y0]) := by
  have hx := C.1
  have hb := C.2.1
  unfold B_Mo_forward_68 at hF
  refine lv_istore hx hb d_Mo_forward_68 hl (by decide) (lv' := [(4, .int y0), (0, .ref (Bm + v0)), (1, .int x1), (2, .int x2), (3, .int x3)]) rfl (fun ls hl => ?_)
  refine lv_iload hx hb d_Mo_forward_70 (lv_at hl 0 rfl) ?_
  refine lv_if_eq hx hb d_Mo_forward_72 (tgt := 98) rfl (fun hc => ?_) (fun hc => ?_)
  · replace hF := hF.1 hc
    exact JB_Mo_forward_98 C hK26 v0 x1 x2 x3 σ _ _ _ h_v0 hH hT hS (lv_sub hl [1, 2, 3, 4] rfl) hF
  · replace hF := hF.2 hc
    refine lv_iload_n hx hb d_Mo_forward_75 rfl (lv_at hl 3 rfl) ?_
    refine lv_if_lt hx hb d_Mo_forward_76 (tgt := 94) rfl (fun hc => ?_) (fun hc => ?_)
    · replace hF := hF.1 hc
      exact JB_Mo_forward_94 C hK26 v0 x1 x3 σ _ _ _ h_v0 hH hT hS (lv_sub hl [1, 2, 4] rfl) hF
    · replace hF := hF.2 hc
      refine lv_aload_n hx hb d_Mo_forward_79 rfl (lv_at hl 1 rfl) ?_
      refine rs_getR C hH hT h_v0 fk_11_22 tw_921 d_Mo_forward_80 (fun h51 => ?_)
      refine lv_iload_n hx hb d_Mo_forward_83 rfl (lv_at hl 4 rfl) ?_
      obtain ⟨g52, hF⟩ := hF
      refine rs_iald C hH h51 g52 d_Mo_forward_84 ?_
      refine lv_aload_n hx hb d_Mo_forward_85 rfl (lv_at hl 1 rfl) ?_
      refine rs_getR C hH hT h_v0 fk_11_22 tw_921 d_Mo_forward_86 (fun h53 => ?_)
      refine lv_iload_n hx hb d_Mo_forward_89 rfl (lv_at hl 3 rfl) ?_
      obtain ⟨g54, hF⟩ := hF
      refine rs_iald C hH h53 g54 d_Mo_forward_90 ?_
      refine lv_icmp_le hx hb d_Mo_forward_91 (tgt := 98) rfl (fun hc => ?_) (fun hc => ?_)
      · replace hF := hF.1 hc
        exact JB_Mo_forward_98 C hK26 v0 x1 x2 x3 σ _ _ _ h_v0 hH hT hS (lv_sub hl [1, 2, 3, 4] rfl) hF
      · replace hF := hF.2 hc
        exact JB_Mo_forward_94 C hK26 v0 x1 x3 σ _ _ _ h_v0 hH hT hS (lv_sub hl [1, 2, 4] rfl) hF
set_option maxRecDepth 20000 in
theorem JB_Mo_forward_67 {p : Program} {l : Launch} {e : Env} {s : State} {m : MethodId} {args : Array Value} {below : List Frame} {meth : Method} {c : Code} {G : rs_G} {Bm : Nat} {S : rs_Shp} {K26 : Nat → Int32 → Int32 → Int32 → rs_Mem → Prop} {Q : Int32 → rs_Mem → Prop} (C : rs_C "RouteSpeakerModel" prog_12_method_67_code 5 (some .int) G p s m meth c args) (hK26 : ∀ (v0 : Nat) (x1 : Int32) (x2 : Int32) (x3 : Int32) (σ : rs_Mem) (H : Heap) (locs : List Loc) (ls : Array Slot), rs_Ok S 11 v0 → rs_H G Bm S σ H → rs_T S σ → va_S (rs_A Bm) s.heap H locs → lv_has ls 5 [(0, .ref (Bm + v0)), (1, .int x1), (2, .int x2), (3, .int x3)] → K26 v0 x1 x2 x3 σ → W p l e { frames := 6, cells := 0, slots := 0, locals := 138 } s m args below meth c H locs 0 0 (MQ below (rs_Qi G Bm S Q) args s 0 0 (rs_A Bm)) (F0 m 26 ls [])) (v0 : Nat) (x1 : Int32) (x2 : Int32) (x3 : Int32) (σ : rs_Mem) (H : Heap) (locs : List Loc) (ls : Array Slot) (h_v0 : rs_Ok S 11 v0) (hH : rs_H G Bm S σ H) (hT : rs_T S σ) (hS : va_S (rs_A Bm) s.heap H locs) (hl : lv_has ls 5 [(0, .ref (Bm + v0)), (1, .int x1), (2, .int x2), (3, .int x3)]) (hF : B_Mo_forward_67 S.2.2 K26 Q v0 x1 x2 x3 σ) :
    W p l e { frames := 6, cells := 0, slots := 0, locals := 138 } s m args below meth c H locs 0 0 (MQ below (rs_Qi G Bm S Q) args s 0 0 (rs_A Bm)) (F0 m 67 ls []) := by
  have hx := C.1
  have hb := C.2.1
  unfold B_Mo_forward_67 at hF
  refine lv_iconst hx hb d_Mo_forward_67 ki_0 ?_
  exact JB_Mo_forward_68 C hK26 v0 x1 x2 x3 (0 : Int32) σ _ _ _ h_v0 hH hT hS (lv_sub hl [0, 1, 2, 3] rfl) hF
set_option maxRecDepth 20000 in
theorem JL_Mo_forward_26 {p : Program} {l : Launch} {e : Env} {s : State} {m : MethodId} {args : Array Value} {below : List Frame} {meth : Method} {c : Code} {G : rs_G} {Bm : Nat} {S : rs_Shp} {Q : Int32 → rs_Mem → Prop} (C : rs_C "RouteSpeakerModel" prog_12_method_67_code 5 (some .int) G p s m meth c args) : ∀ n : Nat, ∀ (v0 : Nat) (x1 : Int32) (x2 : Int32) (x3 : Int32) (σ : rs_Mem) (H : Heap) (locs : List Loc) (ls : Array Slot), rs_Ok S 11 v0 → rs_H G Bm S σ H → rs_T S σ → va_S (rs_A Bm) s.heap H locs → lv_has ls 5 [(0, .ref (Bm + v0)), (1, .int x1), (2, .int x2), (3, .int x3)] → (L_Mo_forward_26 S.2.2 Q n) v0 x1 x2 x3 σ → W p l e { frames := 6, cells := 0, slots := 0, locals := 138 } s m args below meth c H locs 0 0 (MQ below (rs_Qi G Bm S Q) args s 0 0 (rs_A Bm)) (F0 m 26 ls []) := by
  have hx := C.1
  have hb := C.2.1
  intro n
  induction n with
  | zero => intros; rename_i hF; exact hF.elim
  | succ n hK26 =>
    intro v0 x1 x2 x3 σ H locs ls h_v0 hH hT hS hl hF
    replace hF : G_Mo_forward_26 S.2.2 Q (L_Mo_forward_26 S.2.2 Q n) v0 x1 x2 x3 σ := hF
    unfold G_Mo_forward_26 at hF
    refine lv_iload_n hx hb d_Mo_forward_26 rfl (lv_at hl 3 rfl) ?_
    refine lv_aload_n hx hb d_Mo_forward_27 rfl (lv_at hl 0 rfl) ?_
    refine rs_getI C hH h_v0 fk_11_21 tw_920 d_Mo_forward_28 ?_
    refine lv_icmp_ge hx hb d_Mo_forward_31 (tgt := 106) rfl (fun hc => ?_) (fun hc => ?_)
    · replace hF := hF.1 hc
      refine lv_iload_n hx hb d_Mo_forward_106 rfl (lv_at hl 2 rfl) ?_
      refine lv_if_ge hx hb d_Mo_forward_107 (tgt := 118) rfl (fun hc => ?_) (fun hc => ?_)
      · replace hF := hF.1 hc
        refine lv_aload_n hx hb d_Mo_forward_118 rfl (lv_at hl 0 rfl) ?_
        refine lv_iload_n hx hb d_Mo_forward_119 rfl (lv_at hl 2 rfl) ?_
        refine rs_ci (rs_runV C hH hT hl (J_Mo_bestOf l h_v0 hF) rc_Mo_bestOf tw_1049 tw_1051 ts_37 h_v0 ⟨rfl, by decide, by decide⟩ rfl ⟨⟨rfl, rfl⟩, by decide, by decide, by decide⟩ (Nat.le_of_ble_eq_true rfl) rfl d_Mo_forward_120) hS (fun x52 σ51 H locs hH hT hS hF => ?_)
        exact rs_iret C hH hT hS hF d_Mo_forward_123
      · replace hF := hF.2 hc
        refine lv_aload_n hx hb d_Mo_forward_110 rfl (lv_at hl 0 rfl) ?_
        refine lv_iconst hx hb d_Mo_forward_111 ki_2 ?_
        refine rs_ci (rs_runV C hH hT hl (J_Mo_fails l h_v0 hF) rc_Mo_fails tw_1272 tw_1274 ts_76 h_v0 ⟨rfl, by decide, by decide⟩ rfl ⟨⟨rfl, rfl⟩, by decide, by decide, by decide⟩ (Nat.le_of_ble_eq_true rfl) rfl d_Mo_forward_112) hS (fun x52 σ51 H locs hH hT hS hF => ?_)
        refine lv_goto hx hb d_Mo_forward_115 (tgt := 123) rfl ?_
        exact rs_iret C hH hT hS hF d_Mo_forward_123
    · replace hF := hF.2 hc
      refine lv_bipush hx hb d_Mo_forward_34 kb_8 ?_
      refine lv_iload_n hx hb d_Mo_forward_36 rfl (lv_at hl 1 rfl) ?_
      refine lv_aload_n hx hb d_Mo_forward_37 rfl (lv_at hl 0 rfl) ?_
      refine rs_getR C hH hT h_v0 fk_11_22 tw_921 d_Mo_forward_38 (fun h51 => ?_)
      refine lv_iload_n hx hb d_Mo_forward_41 rfl (lv_at hl 3 rfl) ?_
      obtain ⟨g52, hF⟩ := hF
      refine rs_iald C hH h51 g52 d_Mo_forward_42 ?_
      refine lv_aload_n hx hb d_Mo_forward_43 rfl (lv_at hl 0 rfl) ?_
      refine rs_getR C hH hT h_v0 fk_11_23 tw_922 d_Mo_forward_44 (fun h53 => ?_)
      refine lv_iload_n hx hb d_Mo_forward_47 rfl (lv_at hl 3 rfl) ?_
      obtain ⟨g54, hF⟩ := hF
      refine rs_iald C hH h53 g54 d_Mo_forward_48 ?_
      refine rs_ci (rs_runS C hH hT hl (J_Mo_isWithin l hF) rc_Mo_isWithin tw_1061 tw_1062 rfl ⟨⟨rfl, rfl⟩, by decide, by decide, by decide⟩ (Nat.le_of_ble_eq_true rfl) rfl d_Mo_forward_49) hS (fun x56 σ55 H locs hH hT hS hF => ?_)
      refine lv_if_eq hx hb d_Mo_forward_52 (tgt := 67) rfl (fun hc => ?_) (fun hc => ?_)
      · replace hF := hF.1 hc
        exact JB_Mo_forward_67 C hK26 v0 x1 x2 x3 σ55 _ _ _ h_v0 hH hT hS (lv_sub hl [0, 1, 2, 3] rfl) hF
      · replace hF := hF.2 hc
        refine lv_aload_n hx hb d_Mo_forward_55 rfl (lv_at hl 0 rfl) ?_
        refine lv_iload_n hx hb d_Mo_forward_56 rfl (lv_at hl 3 rfl) ?_
        refine rs_ci (rs_runV C hH hT hl (J_Mo_bestOf l h_v0 hF) rc_Mo_bestOf tw_1049 tw_1051 ts_37 h_v0 ⟨rfl, by decide, by decide⟩ rfl ⟨⟨rfl, rfl⟩, by decide, by decide, by decide⟩ (Nat.le_of_ble_eq_true rfl) rfl d_Mo_forward_57) hS (fun x58 σ57 H locs hH hT hS hF => ?_)
        refine lv_if_lt hx hb d_Mo_forward_60 (tgt := 67) rfl (fun hc => ?_) (fun hc => ?_)
        · replace hF := hF.1 hc
          exact JB_Mo_forward_67 C hK26 v0 x1 x2 x3 σ57 _ _ _ h_v0 hH hT hS (lv_sub hl [0, 1, 2, 3] rfl) hF
        · replace hF := hF.2 hc
          refine lv_iconst hx hb d_Mo_forward_63 ki_1 ?_
          refine lv_goto hx hb d_Mo_forward_64 (tgt := 68) rfl ?_
          exact JB_Mo_forward_68 C hK26 v0 x1 x2 x3 (1 : Int32) σ57 _ _ _ h_v0 hH hT hS (lv_sub hl [0, 1, 2, 3] rfl) hF
abbrev y_Mo_forward : MethodName := ({ cls := "RouteSpeakerModel", name := "forward", desc := "(I)I" } : Jvm.MethodName)
theorem rc_Mo_forward : rs_Cal y_Mo_forward prog_12_method_67_code 5 (some .int) 1 := ⟨tw_1287, tw_11, by decide, by decide, by decide +kernel⟩
set_option maxRecDepth 20000 in
theorem J_Mo_forward (l : Launch) {G : rs_G} {Bm : Nat} {S : rs_Shp} {v0 : Nat} {x1 : Int32} {σ : rs_Mem} {Q : Int32 → rs_Mem → Prop} (h_v0 : rs_Ok S 11 v0) (hF : F_Mo_forward S.2.2 v0 x1 σ Q) :
    Met l y_Mo_forward (rs_ws y_Mo_forward prog_12_method_67_code 5 (some .int)) { frames := 6, cells := 0, slots := 0, locals := 138 } (rs_P G Bm S σ [.ref (Bm + v0), .int x1]) (rs_Qi G Bm S Q) 0 0 (rs_A Bm) := by
  refine rs_met (own := "RouteSpeakerModel") (by decide) rfl (Nat.le_of_ble_eq_true rfl) (fun p e s m below meth c ls C hl hH hT hS => ?_)
  replace hl : lv_has ls 5 [(0, .ref (Bm + v0)), (1, .int x1)] := hl
  have hx := C.1
  have hb := C.2.1
  unfold F_Mo_forward at hF
  refine lv_aload_n hx hb d_Mo_forward_0 rfl (lv_at hl 0 rfl) ?_
  refine lv_iconst hx hb d_Mo_forward_1 ki_0 ?_
  refine rs_putI C hH hT hS h_v0 fk_11_0 rfl tw_899 d_Mo_forward_2 (fun σ51 H locs eσ51 hH hT hS => ?_)
  replace hF := hF σ51 eσ51
  refine lv_iload_n hx hb d_Mo_forward_5 rfl (lv_at hl 1 rfl) ?_
  refine lv_if_lt hx hb d_Mo_forward_6 (tgt := 16) rfl (fun hc => ?_) (fun hc => ?_)
  · replace hF := hF.1 hc
    exact JB_Mo_forward_16 C v0 σ51 _ _ _ h_v0 hH hT hS (lv_sub hl [0] rfl) hF
  · replace hF := hF.2 hc
    refine lv_iload_n hx hb d_Mo_forward_9 rfl (lv_at hl 1 rfl) ?_
    refine lv_sipush hx hb d_Mo_forward_10 ks_255 ?_
    refine lv_icmp_le hx hb d_Mo_forward_13 (tgt := 22) rfl (fun hc => ?_) (fun hc => ?_)
    · replace hF := hF.1 hc
      refine lv_iconst hx hb d_Mo_forward_22 ki_m1 ?_
      refine lv_istore_n hx hb d_Mo_forward_23 rfl hl (by decide) (lv' := [(2, .int (-1 : Int32)), (0, .ref (Bm + v0)), (1, .int x1)]) rfl (fun ls hl => ?_)
      refine lv_iconst hx hb d_Mo_forward_24 ki_0 ?_
      refine lv_istore_n hx hb d_Mo_forward_25 rfl hl (by decide) (lv' := [(3, .int (0 : Int32)), (2, .int (-1 : Int32)), (0, .ref (Bm + v0)), (1, .int x1)]) rfl (fun ls hl => ?_)
      obtain ⟨n, hF⟩ := hF
      exact JL_Mo_forward_26 C n v0 x1 (-1 : Int32) (0 : Int32) σ51 _ _ _ h_v0 hH hT hS (lv_sub hl [2, 3, 1, 0] rfl) hF
    · replace hF := hF.2 hc
      exact JB_Mo_forward_16 C v0 σ51 _ _ _ h_v0 hH hT hS (lv_sub hl [0] rfl) hF
/-! RouteSpeakerModel.known()I -/
theorem d_Mo_known_0 : decode prog_12_method_68_code 0 = .ok (.aload_n 0, 1) := by decide +kernel
theorem d_Mo_known_1 : decode prog_12_method_68_code 1 = .ok (.iconst 0, 1) := by decide +kernel
theorem d_Mo_known_2 : decode prog_12_method_68_code 2 = .ok (.putfield 126, 3) := by decide +kernel
theorem d_Mo_known_5 : decode prog_12_method_68_code 5 = .ok (.aload_n 0, 1) := by decide +kernel
theorem d_Mo_known_6 : decode prog_12_method_68_code 6 = .ok (.getfield 134, 3) := by decide +kernel
theorem d_Mo_known_9 : decode prog_12_method_68_code 9 = .ok (.ireturn, 1) := by decide +kernel
def F_Mo_known (N : Nat → Nat) (v0 : Nat) (σ : rs_Mem) (Q : Int32 → rs_Mem → Prop) : Prop :=
  (∀ σ51 : rs_Mem, σ51 = rs_sI σ v0 0 (0 : Int32) → (Q (rs_I σ51 v0 21) σ51))
abbrev y_Mo_known : MethodName := ({ cls := "RouteSpeakerModel", name := "known", desc := "()I" } : Jvm.MethodName)
theorem rc_Mo_known : rs_Cal y_Mo_known prog_12_method_68_code 1 (some .int) 0 := ⟨tw_1291, tw_11, by decide, by decide, by decide +kernel⟩
set_option maxRecDepth 20000 in
theorem J_Mo_known (l : Launch) {G : rs_G} {Bm : Nat} {S : rs_Shp} {v0 : Nat} {σ : rs_Mem} {Q : Int32 → rs_Mem → Prop} (h_v0 : rs_Ok S 11 v0) (hF : F_Mo_known S.2.2 v0 σ Q) :
    Met l y_Mo_known (rs_ws y_Mo_known prog_12_method_68_code 1 (some .int)) { frames := 0, cells := 0, slots := 0, locals := 0 } (rs_P G Bm S σ [.ref (Bm + v0)]) (rs_Qi G Bm S Q) 0 0 (rs_A Bm) := by
  refine rs_met (own := "RouteSpeakerModel") (by decide) rfl (Nat.le_of_ble_eq_true rfl) (fun p e s m below meth c ls C hl hH hT hS => ?_)
  replace hl : lv_has ls 1 [(0, .ref (Bm + v0))] := hl
  have hx := C.1
  have hb := C.2.1
  unfold F_Mo_known at hF
  refine lv_aload_n hx hb d_Mo_known_0 rfl (lv_at hl 0 rfl) ?_
  refine lv_iconst hx hb d_Mo_known_1 ki_0 ?_
  refine rs_putI C hH hT hS h_v0 fk_11_0 rfl tw_899 d_Mo_known_2 (fun σ51 H locs eσ51 hH hT hS => ?_)
  replace hF := hF σ51 eσ51
  refine lv_aload_n hx hb d_Mo_known_5 rfl (lv_at hl 0 rfl) ?_
  refine rs_getI C hH h_v0 fk_11_21 tw_920 d_Mo_known_6 ?_
  exact rs_iret C hH hT hS hF d_Mo_known_9
