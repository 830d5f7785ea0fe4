/-! RouteSpeaker.isPeer(I)Z -/
theorem d_Sp_isPeer_0 : decode prog_1_method_19_code 0 = .ok (.iload_n 0, 1) := by decide +kernel
theorem d_Sp_isPeer_1 : decode prog_1_method_19_code 1 = .ok (.ifCond .lt (12), 3) := by decide +kernel
theorem d_Sp_isPeer_4 : decode prog_1_method_19_code 4 = .ok (.iload_n 0, 1) := by decide +kernel
theorem d_Sp_isPeer_5 : decode prog_1_method_19_code 5 = .ok (.iconst 4, 1) := by decide +kernel
theorem d_Sp_isPeer_6 : decode prog_1_method_19_code 6 = .ok (.if_icmp .ge (7), 3) := by decide +kernel
theorem d_Sp_isPeer_9 : decode prog_1_method_19_code 9 = .ok (.iconst 1, 1) := by decide +kernel
theorem d_Sp_isPeer_10 : decode prog_1_method_19_code 10 = .ok (.goto (4), 3) := by decide +kernel
theorem d_Sp_isPeer_13 : decode prog_1_method_19_code 13 = .ok (.iconst 0, 1) := by decide +kernel
theorem d_Sp_isPeer_14 : decode prog_1_method_19_code 14 = .ok (.ireturn, 1) := by decide +kernel
def F_Sp_isPeer (N : Nat → Nat) (x0 : Int32) (σ : rs_Mem) (Q : Int32 → rs_Mem → Prop) : Prop :=
  ((x0 < 0 → (Q (0 : Int32) σ)) ∧ (¬ (x0 < 0) → (((4 : Int32) ≤ x0 → (Q (0 : Int32) σ)) ∧ (¬ ((4 : Int32) ≤ x0) → (Q (1 : Int32) σ)))))
abbrev y_Sp_isPeer : MethodName := ({ cls := "RouteSpeaker", name := "isPeer", desc := "(I)Z" } : Jvm.MethodName)
theorem rc_Sp_isPeer : rs_Cal y_Sp_isPeer prog_1_method_19_code 1 (some .boolean) 1 := ⟨tw_519, tw_1, by decide, by decide, by decide +kernel⟩
set_option maxRecDepth 20000 in
theorem J_Sp_isPeer (l : Launch) {G : rs_G} {Bm : Nat} {S : rs_Shp} {x0 : Int32} {σ : rs_Mem} {Q : Int32 → rs_Mem → Prop} (hF : F_Sp_isPeer S.2.2 x0 σ Q) :
    Met l y_Sp_isPeer (rs_ws y_Sp_isPeer prog_1_method_19_code 1 (some .boolean)) { frames := 0, cells := 0, slots := 0, locals := 0 } (rs_P G Bm S σ [.int x0]) (rs_Qi G Bm S Q) 0 0 (rs_A Bm) := by
  refine rs_met (own := "RouteSpeaker") (by decide) rfl (Nat.le_of_ble_eq_true rfl) (fun p e s m below meth c ls C hl hH hT hS => ?_)
  replace hl : lv_has ls 1 [(0, .int x0)] := hl
  have hx := C.1
  have hb := C.2.1
  unfold F_Sp_isPeer at hF
  refine lv_iload_n hx hb d_Sp_isPeer_0 rfl (lv_at hl 0 rfl) ?_
  refine lv_if_lt hx hb d_Sp_isPeer_1 (tgt := 13) rfl (fun hc => ?_) (fun hc => ?_)
  · replace hF := hF.1 hc
    refine lv_iconst hx hb d_Sp_isPeer_13 ki_0 ?_
    exact rs_zret C hH hT hS (by decide) hF d_Sp_isPeer_14
  · replace hF := hF.2 hc
    refine lv_iload_n hx hb d_Sp_isPeer_4 rfl (lv_at hl 0 rfl) ?_
    refine lv_iconst hx hb d_Sp_isPeer_5 ki_4 ?_
    refine lv_icmp_ge hx hb d_Sp_isPeer_6 (tgt := 13) rfl (fun hc => ?_) (fun hc => ?_)
    · replace hF := hF.1 hc
      refine lv_iconst hx hb d_Sp_isPeer_13 ki_0 ?_
      exact rs_zret C hH hT hS (by decide) hF d_Sp_isPeer_14
    · replace hF := hF.2 hc
      refine lv_iconst hx hb d_Sp_isPeer_9 ki_1 ?_
      refine lv_goto hx hb d_Sp_isPeer_10 (tgt := 14) rfl ?_
      exact rs_zret C hH hT hS (by decide) hF d_Sp_isPeer_14
/-! RouteSpeaker.isNumber(I)Z -/
theorem d_Sp_isNumber_0 : decode prog_1_method_20_code 0 = .ok (.iload_n 0, 1) := by decide +kernel
theorem d_Sp_isNumber_1 : decode prog_1_method_20_code 1 = .ok (.iconst 1, 1) := by decide +kernel
theorem d_Sp_isNumber_2 : decode prog_1_method_20_code 2 = .ok (.if_icmp .lt (14), 3) := by decide +kernel
theorem d_Sp_isNumber_5 : decode prog_1_method_20_code 5 = .ok (.iload_n 0, 1) := by decide +kernel
theorem d_Sp_isNumber_6 : decode prog_1_method_20_code 6 = .ok (.sipush (250), 3) := by decide +kernel
theorem d_Sp_isNumber_9 : decode prog_1_method_20_code 9 = .ok (.if_icmp .gt (7), 3) := by decide +kernel
theorem d_Sp_isNumber_12 : decode prog_1_method_20_code 12 = .ok (.iconst 1, 1) := by decide +kernel
theorem d_Sp_isNumber_13 : decode prog_1_method_20_code 13 = .ok (.goto (4), 3) := by decide +kernel
theorem d_Sp_isNumber_16 : decode prog_1_method_20_code 16 = .ok (.iconst 0, 1) := by decide +kernel
theorem d_Sp_isNumber_17 : decode prog_1_method_20_code 17 = .ok (.ireturn, 1) := by decide +kernel
def F_Sp_isNumber (N : Nat → Nat) (x0 : Int32) (σ : rs_Mem) (Q : Int32 → rs_Mem → Prop) : Prop :=
  ((x0 < (1 : Int32) → (Q (0 : Int32) σ)) ∧ (¬ (x0 < (1 : Int32)) → (((250 : Int32) < x0 → (Q (0 : Int32) σ)) ∧ (¬ ((250 : Int32) < x0) → (Q (1 : Int32) σ)))))
abbrev y_Sp_isNumber : MethodName := ({ cls := "RouteSpeaker", name := "isNumber", desc := "(I)Z" } : Jvm.MethodName)
theorem rc_Sp_isNumber : rs_Cal y_Sp_isNumber prog_1_method_20_code 1 (some .boolean) 1 := ⟨tw_598, tw_1, by decide, by decide, by decide +kernel⟩
set_option maxRecDepth 20000 in
theorem J_Sp_isNumber (l : Launch) {G : rs_G} {Bm : Nat} {S : rs_Shp} {x0 : Int32} {σ : rs_Mem} {Q : Int32 → rs_Mem → Prop} (hF : F_Sp_isNumber S.2.2 x0 σ Q) :
    Met l y_Sp_isNumber (rs_ws y_Sp_isNumber prog_1_method_20_code 1 (some .boolean)) { frames := 0, cells := 0, slots := 0, locals := 0 } (rs_P G Bm S σ [.int x0]) (rs_Qi G Bm S Q) 0 0 (rs_A Bm) := by
  refine rs_met (own := "RouteSpeaker") (by decide) rfl (Nat.le_of_ble_eq_true rfl) (fun p e s m below meth c ls C hl hH hT hS => ?_)
  replace hl : lv_has ls 1 [(0, .int x0)] := hl
  have hx := C.1
  have hb := C.2.1
  unfold F_Sp_isNumber at hF
  refine lv_iload_n hx hb d_Sp_isNumber_0 rfl (lv_at hl 0 rfl) ?_
  refine lv_iconst hx hb d_Sp_isNumber_1 ki_1 ?_
  refine lv_icmp_lt hx hb d_Sp_isNumber_2 (tgt := 16) rfl (fun hc => ?_) (fun hc => ?_)
  · replace hF := hF.1 hc
    refine lv_iconst hx hb d_Sp_isNumber_16 ki_0 ?_
    exact rs_zret C hH hT hS (by decide) hF d_Sp_isNumber_17
  · replace hF := hF.2 hc
    refine lv_iload_n hx hb d_Sp_isNumber_5 rfl (lv_at hl 0 rfl) ?_
    refine lv_sipush hx hb d_Sp_isNumber_6 ks_250 ?_
    refine lv_icmp_gt hx hb d_Sp_isNumber_9 (tgt := 16) rfl (fun hc => ?_) (fun hc => ?_)
    · replace hF := hF.1 hc
      refine lv_iconst hx hb d_Sp_isNumber_16 ki_0 ?_
      exact rs_zret C hH hT hS (by decide) hF d_Sp_isNumber_17
    · replace hF := hF.2 hc
      refine lv_iconst hx hb d_Sp_isNumber_12 ki_1 ?_
      refine lv_goto hx hb d_Sp_isNumber_13 (tgt := 17) rfl ?_
      exact rs_zret C hH hT hS (by decide) hF d_Sp_isNumber_17
/-! RouteSpeaker$Peer.isIdle()Z -/
theorem d_Pe_isIdle_0 : decode prog_6_method_2_code 0 = .ok (.aload_n 0, 1) := by decide +kernel
theorem d_Pe_isIdle_1 : decode prog_6_method_2_code 1 = .ok (.getfield 51, 3) := by decide +kernel
theorem d_Pe_isIdle_4 : decode prog_6_method_2_code 4 = .ok (.ifCond .ne (7), 3) := by decide +kernel
theorem d_Pe_isIdle_7 : decode prog_6_method_2_code 7 = .ok (.iconst 1, 1) := by decide +kernel
theorem d_Pe_isIdle_8 : decode prog_6_method_2_code 8 = .ok (.goto (4), 3) := by decide +kernel
theorem d_Pe_isIdle_11 : decode prog_6_method_2_code 11 = .ok (.iconst 0, 1) := by decide +kernel
theorem d_Pe_isIdle_12 : decode prog_6_method_2_code 12 = .ok (.ireturn, 1) := by decide +kernel
def F_Pe_isIdle (N : Nat → Nat) (v0 : Nat) (σ : rs_Mem) (Q : Int32 → rs_Mem → Prop) : Prop :=
  ((¬ ((rs_I σ v0 6) = 0) → (Q (0 : Int32) σ)) ∧ ((rs_I σ v0 6) = 0 → (Q (1 : Int32) σ)))
abbrev y_Pe_isIdle : MethodName := ({ cls := "RouteSpeaker$Peer", name := "isIdle", desc := "()Z" } : Jvm.MethodName)
theorem rc_Pe_isIdle : rs_Cal y_Pe_isIdle prog_6_method_2_code 1 (some .boolean) 0 := ⟨tw_602, tw_7, by decide, by decide, by decide +kernel⟩
set_option maxRecDepth 20000 in
theorem J_Pe_isIdle (l : Launch) {G : rs_G} {Bm : Nat} {S : rs_Shp} {v0 : Nat} {σ : rs_Mem} {Q : Int32 → rs_Mem → Prop} (h_v0 : rs_Ok S 6 v0) (hF : F_Pe_isIdle S.2.2 v0 σ Q) :
    Met l y_Pe_isIdle (rs_ws y_Pe_isIdle prog_6_method_2_code 1 (some .boolean)) { frames := 0, cells := 0, slots := 0, locals := 0 } (rs_P G Bm S σ [.ref (Bm + v0)]) (rs_Qi G Bm S Q) 0 0 (rs_A Bm) := by
  refine rs_met (own := "RouteSpeaker$Peer") (by decide) rfl (Nat.le_of_ble_eq_true rfl) (fun p e s m below meth c ls C hl hH hT hS => ?_)
  replace hl : lv_has ls 1 [(0, .ref (Bm + v0))] := hl
  have hx := C.1
  have hb := C.2.1
  unfold F_Pe_isIdle at hF
  refine lv_aload_n hx hb d_Pe_isIdle_0 rfl (lv_at hl 0 rfl) ?_
  refine rs_getI C hH h_v0 fk_6_6 tw_266 d_Pe_isIdle_1 ?_
  refine lv_if_ne hx hb d_Pe_isIdle_4 (tgt := 11) rfl (fun hc => ?_) (fun hc => ?_)
  · replace hF := hF.1 hc
    refine lv_iconst hx hb d_Pe_isIdle_11 ki_0 ?_
    exact rs_zret C hH hT hS (by decide) hF d_Pe_isIdle_12
  · replace hF := hF.2 hc
    refine lv_iconst hx hb d_Pe_isIdle_7 ki_1 ?_
    refine lv_goto hx hb d_Pe_isIdle_8 (tgt := 12) rfl ?_
    exact rs_zret C hH hT hS (by decide) hF d_Pe_isIdle_12
/-! RouteSpeaker.isPrefix(II)Z -/
theorem d_Sp_isPrefix_0 : decode prog_1_method_21_code 0 = .ok (.iload_n 0, 1) := by decide +kernel
theorem d_Sp_isPrefix_1 : decode prog_1_method_21_code 1 = .ok (.ifCond .lt (34), 3) := by decide +kernel
theorem d_Sp_isPrefix_4 : decode prog_1_method_21_code 4 = .ok (.iload_n 0, 1) := by decide +kernel
theorem d_Sp_isPrefix_5 : decode prog_1_method_21_code 5 = .ok (.bipush (8), 2) := by decide +kernel
theorem d_Sp_isPrefix_7 : decode prog_1_method_21_code 7 = .ok (.if_icmp .gt (28), 3) := by decide +kernel
theorem d_Sp_isPrefix_10 : decode prog_1_method_21_code 10 = .ok (.iload_n 1, 1) := by decide +kernel
theorem d_Sp_isPrefix_11 : decode prog_1_method_21_code 11 = .ok (.ifCond .lt (24), 3) := by decide +kernel
theorem d_Sp_isPrefix_14 : decode prog_1_method_21_code 14 = .ok (.iload_n 1, 1) := by decide +kernel
theorem d_Sp_isPrefix_15 : decode prog_1_method_21_code 15 = .ok (.sipush (255), 3) := by decide +kernel
theorem d_Sp_isPrefix_18 : decode prog_1_method_21_code 18 = .ok (.if_icmp .gt (17), 3) := by decide +kernel
theorem d_Sp_isPrefix_21 : decode prog_1_method_21_code 21 = .ok (.iload_n 1, 1) := by decide +kernel
theorem d_Sp_isPrefix_22 : decode prog_1_method_21_code 22 = .ok (.sipush (255), 3) := by decide +kernel
theorem d_Sp_isPrefix_25 : decode prog_1_method_21_code 25 = .ok (.iload_n 0, 1) := by decide +kernel
theorem d_Sp_isPrefix_26 : decode prog_1_method_21_code 26 = .ok (.ishr, 1) := by decide +kernel
theorem d_Sp_isPrefix_27 : decode prog_1_method_21_code 27 = .ok (.iand, 1) := by decide +kernel
theorem d_Sp_isPrefix_28 : decode prog_1_method_21_code 28 = .ok (.ifCond .ne (7), 3) := by decide +kernel
theorem d_Sp_isPrefix_31 : decode prog_1_method_21_code 31 = .ok (.iconst 1, 1) := by decide +kernel
theorem d_Sp_isPrefix_32 : decode prog_1_method_21_code 32 = .ok (.goto (4), 3) := by decide +kernel
theorem d_Sp_isPrefix_35 : decode prog_1_method_21_code 35 = .ok (.iconst 0, 1) := by decide +kernel
theorem d_Sp_isPrefix_36 : decode prog_1_method_21_code 36 = .ok (.ireturn, 1) := by decide +kernel
def F_Sp_isPrefix (N : Nat → Nat) (x0 : Int32) (x1 : Int32) (σ : rs_Mem) (Q : Int32 → rs_Mem → Prop) : Prop :=
  ((x0 < 0 → (Q (0 : Int32) σ)) ∧ (¬ (x0 < 0) → (((8 : Int32) < x0 → (Q (0 : Int32) σ)) ∧ (¬ ((8 : Int32) < x0) → ((x1 < 0 → (Q (0 : Int32) σ)) ∧ (¬ (x1 < 0) → (((255 : Int32) < x1 → (Q (0 : Int32) σ)) ∧ (¬ ((255 : Int32) < x1) → ((¬ ((x1 &&& ((255 : Int32) >>> (x0 &&& 31))) = 0) → (Q (0 : Int32) σ)) ∧ ((x1 &&& ((255 : Int32) >>> (x0 &&& 31))) = 0 → (Q (1 : Int32) σ)))))))))))
abbrev y_Sp_isPrefix : MethodName := ({ cls := "RouteSpeaker", name := "isPrefix", desc := "(II)Z" } : Jvm.MethodName)
theorem rc_Sp_isPrefix : rs_Cal y_Sp_isPrefix prog_1_method_21_code 2 (some .boolean) 2 := ⟨tw_627, tw_1, by decide, by decide, by decide +kernel⟩
set_option maxRecDepth 20000 in
theorem J_Sp_isPrefix (l : Launch) {G : rs_G} {Bm : Nat} {S : rs_Shp} {x0 : Int32} {x1 : Int32} {σ : rs_Mem} {Q : Int32 → rs_Mem → Prop} (hF : F_Sp_isPrefix S.2.2 x0 x1 σ Q) :
    Met l y_Sp_isPrefix (rs_ws y_Sp_isPrefix prog_1_method_21_code 2 (some .boolean)) { frames := 0, cells := 0, slots := 0, locals := 0 } (rs_P G Bm S σ [.int x0, .int x1]) (rs_Qi G Bm S Q) 0 0 (rs_A Bm) := by
  refine rs_met (own := "RouteSpeaker") (by decide) rfl (Nat.le_of_ble_eq_true rfl) (fun p e s m below meth c ls C hl hH hT hS => ?_)
  replace hl : lv_has ls 2 [(0, .int x0), (1, .int x1)] := hl
  have hx := C.1
  have hb := C.2.1
  unfold F_Sp_isPrefix at hF
  refine lv_iload_n hx hb d_Sp_isPrefix_0 rfl (lv_at hl 0 rfl) ?_
  refine lv_if_lt hx hb d_Sp_isPrefix_1 (tgt := 35) rfl (fun hc => ?_) (fun hc => ?_)
  · replace hF := hF.1 hc
    refine lv_iconst hx hb d_Sp_isPrefix_35 ki_0 ?_
    exact rs_zret C hH hT hS (by decide) hF d_Sp_isPrefix_36
  · replace hF := hF.2 hc
    refine lv_iload_n hx hb d_Sp_isPrefix_4 rfl (lv_at hl 0 rfl) ?_
    refine lv_bipush hx hb d_Sp_isPrefix_5 kb_8 ?_
    refine lv_icmp_gt hx hb d_Sp_isPrefix_7 (tgt := 35) rfl (fun hc => ?_) (fun hc => ?_)
    · replace hF := hF.1 hc
      refine lv_iconst hx hb d_Sp_isPrefix_35 ki_0 ?_
      exact rs_zret C hH hT hS (by decide) hF d_Sp_isPrefix_36
    · replace hF := hF.2 hc
      refine lv_iload_n hx hb d_Sp_isPrefix_10 rfl (lv_at hl 1 rfl) ?_
      refine lv_if_lt hx hb d_Sp_isPrefix_11 (tgt := 35) rfl (fun hc => ?_) (fun hc => ?_)
      · replace hF := hF.1 hc
        refine lv_iconst hx hb d_Sp_isPrefix_35 ki_0 ?_
        exact rs_zret C hH hT hS (by decide) hF d_Sp_isPrefix_36
      · replace hF := hF.2 hc
        refine lv_iload_n hx hb d_Sp_isPrefix_14 rfl (lv_at hl 1 rfl) ?_
        refine lv_sipush hx hb d_Sp_isPrefix_15 ks_255 ?_
        refine lv_icmp_gt hx hb d_Sp_isPrefix_18 (tgt := 35) rfl (fun hc => ?_) (fun hc => ?_)
        · replace hF := hF.1 hc
          refine lv_iconst hx hb d_Sp_isPrefix_35 ki_0 ?_
          exact rs_zret C hH hT hS (by decide) hF d_Sp_isPrefix_36
        · replace hF := hF.2 hc
          refine lv_iload_n hx hb d_Sp_isPrefix_21 rfl (lv_at hl 1 rfl) ?_
          refine lv_sipush hx hb d_Sp_isPrefix_22 ks_255 ?_
          refine lv_iload_n hx hb d_Sp_isPrefix_25 rfl (lv_at hl 0 rfl) ?_
          refine lv_ishr hx hb d_Sp_isPrefix_26 ?_
          refine lv_iand hx hb d_Sp_isPrefix_27 ?_
          refine lv_if_ne hx hb d_Sp_isPrefix_28 (tgt := 35) rfl (fun hc => ?_) (fun hc => ?_)
          · replace hF := hF.1 hc
            refine lv_iconst hx hb d_Sp_isPrefix_35 ki_0 ?_
            exact rs_zret C hH hT hS (by decide) hF d_Sp_isPrefix_36
          · replace hF := hF.2 hc
            refine lv_iconst hx hb d_Sp_isPrefix_31 ki_1 ?_
            refine lv_goto hx hb d_Sp_isPrefix_32 (tgt := 36) rfl ?_
            exact rs_zret C hH hT hS (by decide) hF d_Sp_isPrefix_36
/-! RouteSpeaker$Rules.add(III)Z -/
theorem d_Ru_add_0 : decode prog_9_method_2_code 0 = .ok (.aload_n 0, 1) := by decide +kernel
theorem d_Ru_add_1 : decode prog_9_method_2_code 1 = .ok (.getfield 21, 3) := by decide +kernel
theorem d_Ru_add_4 : decode prog_9_method_2_code 4 = .ok (.iconst 3, 1) := by decide +kernel
theorem d_Ru_add_5 : decode prog_9_method_2_code 5 = .ok (.if_icmp .lt (5), 3) := by decide +kernel
theorem d_Ru_add_8 : decode prog_9_method_2_code 8 = .ok (.iconst 0, 1) := by decide +kernel
theorem d_Ru_add_9 : decode prog_9_method_2_code 9 = .ok (.ireturn, 1) := by decide +kernel
theorem d_Ru_add_10 : decode prog_9_method_2_code 10 = .ok (.aload_n 0, 1) := by decide +kernel
theorem d_Ru_add_11 : decode prog_9_method_2_code 11 = .ok (.getfield 9, 3) := by decide +kernel
theorem d_Ru_add_14 : decode prog_9_method_2_code 14 = .ok (.aload_n 0, 1) := by decide +kernel
theorem d_Ru_add_15 : decode prog_9_method_2_code 15 = .ok (.getfield 21, 3) := by decide +kernel
theorem d_Ru_add_18 : decode prog_9_method_2_code 18 = .ok (.iload_n 1, 1) := by decide +kernel
theorem d_Ru_add_19 : decode prog_9_method_2_code 19 = .ok (.iastore, 1) := by decide +kernel
theorem d_Ru_add_20 : decode prog_9_method_2_code 20 = .ok (.aload_n 0, 1) := by decide +kernel
theorem d_Ru_add_21 : decode prog_9_method_2_code 21 = .ok (.getfield 15, 3) := by decide +kernel
theorem d_Ru_add_24 : decode prog_9_method_2_code 24 = .ok (.aload_n 0, 1) := by decide +kernel
theorem d_Ru_add_25 : decode prog_9_method_2_code 25 = .ok (.getfield 21, 3) := by decide +kernel
theorem d_Ru_add_28 : decode prog_9_method_2_code 28 = .ok (.iload_n 2, 1) := by decide +kernel
theorem d_Ru_add_29 : decode prog_9_method_2_code 29 = .ok (.iastore, 1) := by decide +kernel
theorem d_Ru_add_30 : decode prog_9_method_2_code 30 = .ok (.aload_n 0, 1) := by decide +kernel
theorem d_Ru_add_31 : decode prog_9_method_2_code 31 = .ok (.getfield 18, 3) := by decide +kernel
theorem d_Ru_add_34 : decode prog_9_method_2_code 34 = .ok (.aload_n 0, 1) := by decide +kernel
theorem d_Ru_add_35 : decode prog_9_method_2_code 35 = .ok (.getfield 21, 3) := by decide +kernel
theorem d_Ru_add_38 : decode prog_9_method_2_code 38 = .ok (.iload_n 3, 1) := by decide +kernel
theorem d_Ru_add_39 : decode prog_9_method_2_code 39 = .ok (.iastore, 1) := by decide +kernel
theorem d_Ru_add_40 : decode prog_9_method_2_code 40 = .ok (.aload_n 0, 1) := by decide +kernel
theorem d_Ru_add_41 : decode prog_9_method_2_code 41 = .ok (.dup, 1) := by decide +kernel
theorem d_Ru_add_42 : decode prog_9_method_2_code 42 = .ok (.getfield 21, 3) := by decide +kernel
theorem d_Ru_add_45 : decode prog_9_method_2_code 45 = .ok (.iconst 1, 1) := by decide +kernel
theorem d_Ru_add_46 : decode prog_9_method_2_code 46 = .ok (.iadd, 1) := by decide +kernel
theorem d_Ru_add_47 : decode prog_9_method_2_code 47 = .ok (.putfield 21, 3) := by decide +kernel
theorem d_Ru_add_50 : decode prog_9_method_2_code 50 = .ok (.iconst 1, 1) := by decide +kernel
theorem d_Ru_add_51 : decode prog_9_method_2_code 51 = .ok (.ireturn, 1) := by decide +kernel
def F_Ru_add (N : Nat → Nat) (v0 : Nat) (x1 : Int32) (x2 : Int32) (x3 : Int32) (σ : rs_Mem) (Q : Int32 → rs_Mem → Prop) : Prop :=
  (((rs_I σ v0 3) < (3 : Int32) → (vp_in (rs_I σ v0 3) (N (rs_R σ v0 0)) ∧ ∀ σ53 : rs_Mem, σ53 = rs_sI σ (rs_R σ v0 0) (rs_I σ v0 3).toNatClampNeg x1 → (vp_in (rs_I σ53 v0 3) (N (rs_R σ53 v0 1)) ∧ ∀ σ56 : rs_Mem, σ56 = rs_sI σ53 (rs_R σ53 v0 1) (rs_I σ53 v0 3).toNatClampNeg x2 → (vp_in (rs_I σ56 v0 3) (N (rs_R σ56 v0 2)) ∧ ∀ σ59 : rs_Mem, σ59 = rs_sI σ56 (rs_R σ56 v0 2) (rs_I σ56 v0 3).toNatClampNeg x3 → (∀ σ60 : rs_Mem, σ60 = rs_sI σ59 v0 3 ((rs_I σ59 v0 3) + (1 : Int32)) → (Q (1 : Int32) σ60)))))) ∧ (¬ ((rs_I σ v0 3) < (3 : Int32)) → (Q (0 : Int32) σ)))
abbrev y_Ru_add : MethodName := ({ cls := "RouteSpeaker$Rules", name := "add", desc := "(III)Z" } : Jvm.MethodName)
theorem rc_Ru_add : rs_Cal y_Ru_add prog_9_method_2_code 4 (some .boolean) 3 := ⟨tw_631, tw_8, by decide, by decide, by decide +kernel⟩
set_option maxRecDepth 20000 in
theorem J_Ru_add (l : Launch) {G : rs_G} {Bm : Nat} {S : rs_Shp} {v0 : Nat} {x1 : Int32} {x2 : Int32} {x3 : Int32} {σ : rs_Mem} {Q : Int32 → rs_Mem → Prop} (h_v0 : rs_Ok S 9 v0) (hF : F_Ru_add S.2.2 v0 x1 x2 x3 σ Q) :
    Met l y_Ru_add (rs_ws y_Ru_add prog_9_method_2_code 4 (some .boolean)) { frames := 0, cells := 0, slots := 0, locals := 0 } (rs_P G Bm S σ [.ref (Bm + v0), .int x1, .int x2, .int x3]) (rs_Qi G Bm S Q) 0 0 (rs_A Bm) := by
  refine rs_met (own := "RouteSpeaker$Rules") (by decide) rfl (Nat.le_of_ble_eq_true rfl) (fun p e s m below meth c ls C hl hH hT hS => ?_)
  replace hl : lv_has ls 4 [(0, .ref (Bm + v0)), (1, .int x1), (2, .int x2), (3, .int x3)] := hl
  have hx := C.1
  have hb := C.2.1
  unfold F_Ru_add at hF
  refine lv_aload_n hx hb d_Ru_add_0 rfl (lv_at hl 0 rfl) ?_
  refine rs_getI C hH h_v0 fk_9_3 tw_201 d_Ru_add_1 ?_
  refine lv_iconst hx hb d_Ru_add_4 ki_3 ?_
  refine lv_icmp_lt hx hb d_Ru_add_5 (tgt := 10) rfl (fun hc => ?_) (fun hc => ?_)
  · replace hF := hF.1 hc
    refine lv_aload_n hx hb d_Ru_add_10 rfl (lv_at hl 0 rfl) ?_
    refine rs_getR C hH hT h_v0 fk_9_0 tw_198 d_Ru_add_11 (fun h51 => ?_)
    refine lv_aload_n hx hb d_Ru_add_14 rfl (lv_at hl 0 rfl) ?_
    refine rs_getI C hH h_v0 fk_9_3 tw_201 d_Ru_add_15 ?_
    refine lv_iload_n hx hb d_Ru_add_18 rfl (lv_at hl 1 rfl) ?_
    obtain ⟨g52, hF⟩ := hF
    refine rs_iast C hH hT hS h51 g52 d_Ru_add_19 (fun σ53 H locs eσ53 hH hT hS => ?_)
    replace hF := hF σ53 eσ53
    refine lv_aload_n hx hb d_Ru_add_20 rfl (lv_at hl 0 rfl) ?_
    refine rs_getR C hH hT h_v0 fk_9_1 tw_199 d_Ru_add_21 (fun h54 => ?_)
    refine lv_aload_n hx hb d_Ru_add_24 rfl (lv_at hl 0 rfl) ?_
    refine rs_getI C hH h_v0 fk_9_3 tw_201 d_Ru_add_25 ?_
    refine lv_iload_n hx hb d_Ru_add_28 rfl (lv_at hl 2 rfl) ?_
    obtain ⟨g55, hF⟩ := hF
    refine rs_iast C hH hT hS h54 g55 d_Ru_add_29 (fun σ56 H locs eσ56 hH hT hS => ?_)
    replace hF := hF σ56 eσ56
    refine lv_aload_n hx hb d_Ru_add_30 rfl (lv_at hl 0 rfl) ?_
    refine rs_getR C hH hT h_v0 fk_9_2 tw_200 d_Ru_add_31 (fun h57 => ?_)
    refine lv_aload_n hx hb d_Ru_add_34 rfl (lv_at hl 0 rfl) ?_
    refine rs_getI C hH h_v0 fk_9_3 tw_201 d_Ru_add_35 ?_
    refine lv_iload_n hx hb d_Ru_add_38 rfl (lv_at hl 3 rfl) ?_
    obtain ⟨g58, hF⟩ := hF
    refine rs_iast C hH hT hS h57 g58 d_Ru_add_39 (fun σ59 H locs eσ59 hH hT hS => ?_)
    replace hF := hF σ59 eσ59
    refine lv_aload_n hx hb d_Ru_add_40 rfl (lv_at hl 0 rfl) ?_
    refine lv_dup hx hb d_Ru_add_41 rfl ?_
    refine rs_getI C hH h_v0 fk_9_3 tw_201 d_Ru_add_42 ?_
    refine lv_iconst hx hb d_Ru_add_45 ki_1 ?_
    refine lv_iadd hx hb d_Ru_add_46 ?_
    refine rs_putI C hH hT hS h_v0 fk_9_3 rfl tw_201 d_Ru_add_47 (fun σ60 H locs eσ60 hH hT hS => ?_)
    replace hF := hF σ60 eσ60
    refine lv_iconst hx hb d_Ru_add_50 ki_1 ?_
    exact rs_zret C hH hT hS (by decide) hF d_Ru_add_51
  · replace hF := hF.2 hc
    refine lv_iconst hx hb d_Ru_add_8 ki_0 ?_
    exact rs_zret C hH hT hS (by decide) hF d_Ru_add_9
/-! RouteSpeaker$Choice.clear()V -/
theorem d_Ch_clear_0 : decode prog_2_method_2_code 0 = .ok (.iconst 0, 1) := by decide +kernel
theorem d_Ch_clear_1 : decode prog_2_method_2_code 1 = .ok (.istore_n 1, 1) := by decide +kernel
theorem d_Ch_clear_2 : decode prog_2_method_2_code 2 = .ok (.iload_n 1, 1) := by decide +kernel
theorem d_Ch_clear_3 : decode prog_2_method_2_code 3 = .ok (.iconst 5, 1) := by decide +kernel
theorem d_Ch_clear_4 : decode prog_2_method_2_code 4 = .ok (.if_icmp .ge (16), 3) := by decide +kernel
theorem d_Ch_clear_7 : decode prog_2_method_2_code 7 = .ok (.aload_n 0, 1) := by decide +kernel
theorem d_Ch_clear_8 : decode prog_2_method_2_code 8 = .ok (.getfield 20, 3) := by decide +kernel
theorem d_Ch_clear_11 : decode prog_2_method_2_code 11 = .ok (.iload_n 1, 1) := by decide +kernel
theorem d_Ch_clear_12 : decode prog_2_method_2_code 12 = .ok (.iconst 0, 1) := by decide +kernel
theorem d_Ch_clear_13 : decode prog_2_method_2_code 13 = .ok (.bastore, 1) := by decide +kernel
theorem d_Ch_clear_14 : decode prog_2_method_2_code 14 = .ok (.iinc 1 (1), 3) := by decide +kernel
theorem d_Ch_clear_17 : decode prog_2_method_2_code 17 = .ok (.goto (-15), 3) := by decide +kernel
theorem d_Ch_clear_20 : decode prog_2_method_2_code 20 = .ok (.return_, 1) := by decide +kernel
def G_Ch_clear_2 (N : Nat → Nat) (Q : rs_Mem → Prop) (K2 : Nat → Int32 → rs_Mem → Prop) (v0 : Nat) (x1 : Int32) (σ : rs_Mem) : Prop :=
  (((5 : Int32) ≤ x1 → (Q σ)) ∧ (¬ ((5 : Int32) ≤ x1) → (vp_in x1 (N (rs_R σ v0 2)) ∧ ∀ σ53 : rs_Mem, σ53 = rs_sI σ (rs_R σ v0 2) x1.toNatClampNeg (0 : Int32) → (∀ x54 : Int32, x54 = x1 + (1 : Int32) → (K2 v0 x54 σ53)))))
noncomputable def L_Ch_clear_2 (N : Nat → Nat) (Q : rs_Mem → Prop) (n : Nat) : Nat → Int32 → rs_Mem → Prop := Nat.rec (motive := fun _ => Nat → Int32 → rs_Mem → Prop) (fun _ _ _ => False) (fun _ K => G_Ch_clear_2 N Q K) n
def F_Ch_clear (N : Nat → Nat) (v0 : Nat) (σ : rs_Mem) (Q : rs_Mem → Prop) : Prop :=
  (∃ n : Nat, L_Ch_clear_2 N Q n v0 (0 : Int32) σ)
set_option maxRecDepth 20000 in
theorem JL_Ch_clear_2 {p : Program} {l : Launch} {e : Env} {s : State} {m : MethodId} {args : Array Value} {below : List Frame} {meth : Method} {c : Code} {G : rs_G} {Bm : Nat} {S : rs_Shp} {Q : rs_Mem → Prop} (C : rs_C "RouteSpeaker$Choice" prog_2_method_2_code 2 none G p s m meth c args) : ∀ n : Nat, ∀ (v0 : Nat) (x1 : Int32) (σ : rs_Mem) (H : Heap) (locs : List Loc) (ls : Array Slot), rs_Ok S 2 v0 → rs_H G Bm S σ H → rs_T S σ → va_S (rs_A Bm) s.heap H locs → lv_has ls 2 [(0, .ref (Bm + v0)), (1, .int x1)] → (L_Ch_clear_2 S.2.2 Q n) v0 x1 σ → W p l e { frames := 0, cells := 0, slots := 0, locals := 0 } s m args below meth c H locs 0 0 (MQ below (rs_Qv G Bm S Q) args s 0 0 (rs_A Bm)) (F0 m 2 ls []) := by
  have hx := C.1
  have hb := C.2.1
  intro n
  induction n with
  | zero => intros; rename_i hF; exact hF.elim
  | succ n hK2 =>
    intro v0 x1 σ H locs ls h_v0 hH hT hS hl hF
    replace hF : G_Ch_clear_2 S.2.2 Q (L_Ch_clear_2 S.2.2 Q n) v0 x1 σ := hF
    unfold G_Ch_clear_2 at hF
    refine lv_iload_n hx hb d_Ch_clear_2 rfl (lv_at hl 1 rfl) ?_
    refine lv_iconst hx hb d_Ch_clear_3 ki_5 ?_
    refine lv_icmp_ge hx hb d_Ch_clear_4 (tgt := 20) rfl (fun hc => ?_) (fun hc => ?_)
    · replace hF := hF.1 hc
      exact rs_vret C hH hT hS hF d_Ch_clear_20
    · replace hF := hF.2 hc
      refine lv_aload_n hx hb d_Ch_clear_7 rfl (lv_at hl 0 rfl) ?_
      refine rs_getR C hH hT h_v0 fk_2_2 tw_158 d_Ch_clear_8 (fun h51 => ?_)
      refine lv_iload_n hx hb d_Ch_clear_11 rfl (lv_at hl 1 rfl) ?_
      refine lv_iconst hx hb d_Ch_clear_12 ki_0 ?_
      obtain ⟨g52, hF⟩ := hF
      refine rs_zast C hH hT hS (by decide) h51 g52 d_Ch_clear_13 (fun σ53 H locs eσ53 hH hT hS => ?_)
      replace hF := hF σ53 eσ53
      obtain ⟨x54, ex54⟩ : ∃ z : Int32, z = x1 + (1 : Int32) := ⟨_, rfl⟩
      replace hF := hF x54 ex54
      refine lv_iinc hx hb d_Ch_clear_14 hl (k := 1) rfl (v := x54) (by rw [ki_1, ex54]) (by decide) (lv' := [(1, .int x54), (0, .ref (Bm + v0))]) rfl (fun ls hl => ?_)
      refine lv_goto hx hb d_Ch_clear_17 (tgt := 2) rfl ?_
      exact hK2 v0 x54 σ53 _ _ _ h_v0 hH hT hS (lv_sub hl [1, 0] rfl) hF
abbrev y_Ch_clear : MethodName := ({ cls := "RouteSpeaker$Choice", name := "clear", desc := "()V" } : Jvm.MethodName)
theorem rc_Ch_clear : rs_Cal y_Ch_clear prog_2_method_2_code 2 none 0 := ⟨tw_388, tw_5, by decide, by decide, by decide +kernel⟩
set_option maxRecDepth 20000 in
theorem J_Ch_clear (l : Launch) {G : rs_G} {Bm : Nat} {S : rs_Shp} {v0 : Nat} {σ : rs_Mem} {Q : rs_Mem → Prop} (h_v0 : rs_Ok S 2 v0) (hF : F_Ch_clear S.2.2 v0 σ Q) :
    Met l y_Ch_clear (rs_ws y_Ch_clear prog_2_method_2_code 2 none) { frames := 0, cells := 0, slots := 0, locals := 0 } (rs_P G Bm S σ [.ref (Bm + v0)]) (rs_Qv G Bm S Q) 0 0 (rs_A Bm) := by
  refine rs_met (own := "RouteSpeaker$Choice") (by decide) rfl (Nat.le_of_ble_eq_true rfl) (fun p e s m below meth c ls C hl hH hT hS => ?_)
  replace hl : lv_has ls 2 [(0, .ref (Bm + v0))] := hl
  have hx := C.1
  have hb := C.2.1
  unfold F_Ch_clear at hF
  refine lv_iconst hx hb d_Ch_clear_0 ki_0 ?_
  refine lv_istore_n hx hb d_Ch_clear_1 rfl hl (by decide) (lv' := [(1, .int (0 : Int32)), (0, .ref (Bm + v0))]) rfl (fun ls hl => ?_)
  obtain ⟨n, hF⟩ := hF
  exact JL_Ch_clear_2 C n v0 (0 : Int32) σ _ _ _ h_v0 hH hT hS (lv_sub hl [1, 0] rfl) hF
/-! RouteSpeaker$Incoming.has(I)Z -/
theorem d_In_has_0 : decode prog_3_method_2_code 0 = .ok (.iload_n 1, 1) := by decide +kernel
theorem d_In_has_1 : decode prog_3_method_2_code 1 = .ok (.ifCond .lt (22), 3) := by decide +kernel
theorem d_In_has_4 : decode prog_3_method_2_code 4 = .ok (.iload_n 1, 1) := by decide +kernel
theorem d_In_has_5 : decode prog_3_method_2_code 5 = .ok (.bipush (12), 2) := by decide +kernel
theorem d_In_has_7 : decode prog_3_method_2_code 7 = .ok (.if_icmp .ge (16), 3) := by decide +kernel
theorem d_In_has_10 : decode prog_3_method_2_code 10 = .ok (.aload_n 0, 1) := by decide +kernel
theorem d_In_has_11 : decode prog_3_method_2_code 11 = .ok (.getfield 21, 3) := by decide +kernel
theorem d_In_has_14 : decode prog_3_method_2_code 14 = .ok (.iload_n 1, 1) := by decide +kernel
theorem d_In_has_15 : decode prog_3_method_2_code 15 = .ok (.baload, 1) := by decide +kernel
theorem d_In_has_16 : decode prog_3_method_2_code 16 = .ok (.ifCond .eq (7), 3) := by decide +kernel
theorem d_In_has_19 : decode prog_3_method_2_code 19 = .ok (.iconst 1, 1) := by decide +kernel
theorem d_In_has_20 : decode prog_3_method_2_code 20 = .ok (.goto (4), 3) := by decide +kernel
theorem d_In_has_23 : decode prog_3_method_2_code 23 = .ok (.iconst 0, 1) := by decide +kernel
theorem d_In_has_24 : decode prog_3_method_2_code 24 = .ok (.ireturn, 1) := by decide +kernel
def F_In_has (N : Nat → Nat) (v0 : Nat) (x1 : Int32) (σ : rs_Mem) (Q : Int32 → rs_Mem → Prop) : Prop :=
  ((x1 < 0 → (Q (0 : Int32) σ)) ∧ (¬ (x1 < 0) → (((12 : Int32) ≤ x1 → (Q (0 : Int32) σ)) ∧ (¬ ((12 : Int32) ≤ x1) → (vp_in x1 (N (rs_R σ v0 2)) ∧ (((rs_I σ (rs_R σ v0 2) x1.toNatClampNeg) = 0 → (Q (0 : Int32) σ)) ∧ (¬ ((rs_I σ (rs_R σ v0 2) x1.toNatClampNeg) = 0) → (Q (1 : Int32) σ))))))))
abbrev y_In_has : MethodName := ({ cls := "RouteSpeaker$Incoming", name := "has", desc := "(I)Z" } : Jvm.MethodName)
theorem rc_In_has : rs_Cal y_In_has prog_3_method_2_code 2 (some .boolean) 1 := ⟨tw_392, tw_10, by decide, by decide, by decide +kernel⟩
set_option maxRecDepth 20000 in
theorem J_In_has (l : Launch) {G : rs_G} {Bm : Nat} {S : rs_Shp} {v0 : Nat} {x1 : Int32} {σ : rs_Mem} {Q : Int32 → rs_Mem → Prop} (h_v0 : rs_Ok S 3 v0) (hF : F_In_has S.2.2 v0 x1 σ Q) :
    Met l y_In_has (rs_ws y_In_has prog_3_method_2_code 2 (some .boolean)) { frames := 0, cells := 0, slots := 0, locals := 0 } (rs_P G Bm S σ [.ref (Bm + v0), .int x1]) (rs_Qi G Bm S Q) 0 0 (rs_A Bm) := by
  refine rs_met (own := "RouteSpeaker$Incoming") (by decide) rfl (Nat.le_of_ble_eq_true rfl) (fun p e s m below meth c ls C hl hH hT hS => ?_)
  replace hl : lv_has ls 2 [(0, .ref (Bm + v0)), (1, .int x1)] := hl
  have hx := C.1
  have hb := C.2.1
  unfold F_In_has at hF
  refine lv_iload_n hx hb d_In_has_0 rfl (lv_at hl 1 rfl) ?_
  refine lv_if_lt hx hb d_In_has_1 (tgt := 23) rfl (fun hc => ?_) (fun hc => ?_)
  · replace hF := hF.1 hc
    refine lv_iconst hx hb d_In_has_23 ki_0 ?_
    exact rs_zret C hH hT hS (by decide) hF d_In_has_24
  · replace hF := hF.2 hc
    refine lv_iload_n hx hb d_In_has_4 rfl (lv_at hl 1 rfl) ?_
    refine lv_bipush hx hb d_In_has_5 kb_12 ?_
    refine lv_icmp_ge hx hb d_In_has_7 (tgt := 23) rfl (fun hc => ?_) (fun hc => ?_)
    · replace hF := hF.1 hc
      refine lv_iconst hx hb d_In_has_23 ki_0 ?_
      exact rs_zret C hH hT hS (by decide) hF d_In_has_24
    · replace hF := hF.2 hc
      refine lv_aload_n hx hb d_In_has_10 rfl (lv_at hl 0 rfl) ?_
      refine rs_getR C hH hT h_v0 fk_3_2 tw_241 d_In_has_11 (fun h51 => ?_)
      refine lv_iload_n hx hb d_In_has_14 rfl (lv_at hl 1 rfl) ?_
      obtain ⟨g52, hF⟩ := hF
      refine rs_zald C hH h51 g52 d_In_has_15 ?_
      refine lv_if_eq hx hb d_In_has_16 (tgt := 23) rfl (fun hc => ?_) (fun hc => ?_)
      · replace hF := hF.1 hc
        refine lv_iconst hx hb d_In_has_23 ki_0 ?_
        exact rs_zret C hH hT hS (by decide) hF d_In_has_24
      · replace hF := hF.2 hc
        refine lv_iconst hx hb d_In_has_19 ki_1 ?_
        refine lv_goto hx hb d_In_has_20 (tgt := 24) rfl ?_
        exact rs_zret C hH hT hS (by decide) hF d_In_has_24
/-! RouteSpeaker$Route.startHas([III)Z -/
theorem d_Ro_startHas_0 : decode prog_8_method_12_code 0 = .ok (.iconst 0, 1) := by decide +kernel
theorem d_Ro_startHas_1 : decode prog_8_method_12_code 1 = .ok (.istore_n 3, 1) := by decide +kernel
theorem d_Ro_startHas_2 : decode prog_8_method_12_code 2 = .ok (.iload_n 3, 1) := by decide +kernel
theorem d_Ro_startHas_3 : decode prog_8_method_12_code 3 = .ok (.iload_n 1, 1) := by decide +kernel
theorem d_Ro_startHas_4 : decode prog_8_method_12_code 4 = .ok (.if_icmp .ge (18), 3) := by decide +kernel
theorem d_Ro_startHas_7 : decode prog_8_method_12_code 7 = .ok (.aload_n 0, 1) := by decide +kernel
theorem d_Ro_startHas_8 : decode prog_8_method_12_code 8 = .ok (.iload_n 3, 1) := by decide +kernel
theorem d_Ro_startHas_9 : decode prog_8_method_12_code 9 = .ok (.iaload, 1) := by decide +kernel
theorem d_Ro_startHas_10 : decode prog_8_method_12_code 10 = .ok (.iload_n 2, 1) := by decide +kernel
theorem d_Ro_startHas_11 : decode prog_8_method_12_code 11 = .ok (.if_icmp .ne (5), 3) := by decide +kernel
theorem d_Ro_startHas_14 : decode prog_8_method_12_code 14 = .ok (.iconst 1, 1) := by decide +kernel
theorem d_Ro_startHas_15 : decode prog_8_method_12_code 15 = .ok (.ireturn, 1) := by decide +kernel
theorem d_Ro_startHas_16 : decode prog_8_method_12_code 16 = .ok (.iinc 3 (1), 3) := by decide +kernel
theorem d_Ro_startHas_19 : decode prog_8_method_12_code 19 = .ok (.goto (-17), 3) := by decide +kernel
theorem d_Ro_startHas_22 : decode prog_8_method_12_code 22 = .ok (.iconst 0, 1) := by decide +kernel
theorem d_Ro_startHas_23 : decode prog_8_method_12_code 23 = .ok (.ireturn, 1) := by decide +kernel
def G_Ro_startHas_2 (N : Nat → Nat) (Q : Int32 → rs_Mem → Prop) (K2 : Nat → Int32 → Int32 → Int32 → rs_Mem → Prop) (v0 : Nat) (x1 : Int32) (x2 : Int32) (x3 : Int32) (σ : rs_Mem) : Prop :=
  ((x1 ≤ x3 → (Q (0 : Int32) σ)) ∧ (¬ (x1 ≤ x3) → (vp_in x3 (N v0) ∧ ((¬ ((rs_I σ v0 x3.toNatClampNeg) = x2) → (∀ x52 : Int32, x52 = x3 + (1 : Int32) → (K2 v0 x1 x2 x52 σ))) ∧ ((rs_I σ v0 x3.toNatClampNeg) = x2 → (Q (1 : Int32) σ))))))
noncomputable def L_Ro_startHas_2 (N : Nat → Nat) (Q : Int32 → rs_Mem → Prop) (n : Nat) : Nat → Int32 → Int32 → Int32 → rs_Mem → Prop := Nat.rec (motive := fun _ => Nat → Int32 → Int32 → Int32 → rs_Mem → Prop) (fun _ _ _ _ _ => False) (fun _ K => G_Ro_startHas_2 N Q K) n
def F_Ro_startHas (N : Nat → Nat) (v0 : Nat) (x1 : Int32) (x2 : Int32) (σ : rs_Mem) (Q : Int32 → rs_Mem → Prop) : Prop :=
  (∃ n : Nat, L_Ro_startHas_2 N Q n v0 x1 x2 (0 : Int32) σ)
set_option maxRecDepth 20000 in
theorem JL_Ro_startHas_2 {p : Program} {l : Launch} {e : Env} {s : State} {m : MethodId} {args : Array Value} {below : List Frame} {meth : Method} {c : Code} {G : rs_G} {Bm : Nat} {S : rs_Shp} {Q : Int32 → rs_Mem → Prop} (C : rs_C "RouteSpeaker$Route" prog_8_method_12_code 4 (some .boolean) G p s m meth c args) : ∀ n : Nat, ∀ (v0 : Nat) (x1 : Int32) (x2 : Int32) (x3 : Int32) (σ : rs_Mem) (H : Heap) (locs : List Loc) (ls : Array Slot), rs_Ok S 20 v0 → rs_H G Bm S σ H → rs_T S σ → va_S (rs_A Bm) s.heap H locs → lv_has ls 4 [(0, .ref (Bm + v0)), (1, .int x1), (2, .int x2), (3, .int x3)] → (L_Ro_startHas_2 S.2.2 Q n) v0 x1 x2 x3 σ → W p l e { frames := 0, cells := 0, slots := 0, locals := 0 } s m args below meth c H locs 0 0 (MQ below (rs_Qi G Bm S Q) args s 0 0 (rs_A Bm)) (F0 m 2 ls []) := by
  have hx := C.1
  have hb := C.2.1
  intro n
  induction n with
  | zero => intros; rename_i hF; exact hF.elim
  | succ n hK2 =>
    intro v0 x1 x2 x3 σ H locs ls h_v0 hH hT hS hl hF
    replace hF : G_Ro_startHas_2 S.2.2 Q (L_Ro_startHas_2 S.2.2 Q n) v0 x1 x2 x3 σ := hF
    unfold G_Ro_startHas_2 at hF
    refine lv_iload_n hx hb d_Ro_startHas_2 rfl (lv_at hl 3 rfl) ?_
    refine lv_iload_n hx hb d_Ro_startHas_3 rfl (lv_at hl 1 rfl) ?_
    refine lv_icmp_ge hx hb d_Ro_startHas_4 (tgt := 22) rfl (fun hc => ?_) (fun hc => ?_)
    · replace hF := hF.1 hc
      refine lv_iconst hx hb d_Ro_startHas_22 ki_0 ?_
      exact rs_zret C hH hT hS (by decide) hF d_Ro_startHas_23
    · replace hF := hF.2 hc
      refine lv_aload_n hx hb d_Ro_startHas_7 rfl (lv_at hl 0 rfl) ?_
      refine lv_iload_n hx hb d_Ro_startHas_8 rfl (lv_at hl 3 rfl) ?_
      obtain ⟨g51, hF⟩ := hF
      refine rs_iald C hH h_v0 g51 d_Ro_startHas_9 ?_
      refine lv_iload_n hx hb d_Ro_startHas_10 rfl (lv_at hl 2 rfl) ?_
      refine lv_icmp_ne hx hb d_Ro_startHas_11 (tgt := 16) rfl (fun hc => ?_) (fun hc => ?_)
      · replace hF := hF.1 hc
        obtain ⟨x52, ex52⟩ : ∃ z : Int32, z = x3 + (1 : Int32) := ⟨_, rfl⟩
        replace hF := hF x52 ex52
        refine lv_iinc hx hb d_Ro_startHas_16 hl (k := 3) rfl (v := x52) (by rw [ki_1, ex52]) (by decide) (lv' := [(3, .int x52), (0, .ref (Bm + v0)), (1, .int x1), (2, .int x2)]) rfl (fun ls hl => ?_)
        refine lv_goto hx hb d_Ro_startHas_19 (tgt := 2) rfl ?_
        exact hK2 v0 x1 x2 x52 σ _ _ _ h_v0 hH hT hS (lv_sub hl [1, 2, 3, 0] rfl) hF
      · replace hF := hF.2 hc
        refine lv_iconst hx hb d_Ro_startHas_14 ki_1 ?_
        exact rs_zret C hH hT hS (by decide) hF d_Ro_startHas_15
abbrev y_Ro_startHas : MethodName := ({ cls := "RouteSpeaker$Route", name := "startHas", desc := "([III)Z" } : Jvm.MethodName)
theorem rc_Ro_startHas : rs_Cal y_Ro_startHas prog_8_method_12_code 4 (some .boolean) 3 := ⟨tw_403, tw_3, by decide, by decide, by decide +kernel⟩
set_option maxRecDepth 20000 in
theorem J_Ro_startHas (l : Launch) {G : rs_G} {Bm : Nat} {S : rs_Shp} {v0 : Nat} {x1 : Int32} {x2 : Int32} {σ : rs_Mem} {Q : Int32 → rs_Mem → Prop} (h_v0 : rs_Ok S 20 v0) (hF : F_Ro_startHas S.2.2 v0 x1 x2 σ Q) :
    Met l y_Ro_startHas (rs_ws y_Ro_startHas prog_8_method_12_code 4 (some .boolean)) { frames := 0, cells := 0, slots := 0, locals := 0 } (rs_P G Bm S σ [.ref (Bm + v0), .int x1, .int x2]) (rs_Qi G Bm S Q) 0 0 (rs_A Bm) := by
  refine rs_met (own := "RouteSpeaker$Route") (by decide) rfl (Nat.le_of_ble_eq_true rfl) (fun p e s m below meth c ls C hl hH hT hS => ?_)
  replace hl : lv_has ls 4 [(0, .ref (Bm + v0)), (1, .int x1), (2, .int x2)] := hl
  have hx := C.1
  have hb := C.2.1
  unfold F_Ro_startHas at hF
  refine lv_iconst hx hb d_Ro_startHas_0 ki_0 ?_
  refine lv_istore_n hx hb d_Ro_startHas_1 rfl hl (by decide) (lv' := [(3, .int (0 : Int32)), (0, .ref (Bm + v0)), (1, .int x1), (2, .int x2)]) rfl (fun ls hl => ?_)
  obtain ⟨n, hF⟩ := hF
  exact JL_Ro_startHas_2 C n v0 x1 x2 (0 : Int32) σ _ _ _ h_v0 hH hT hS (lv_sub hl [1, 2, 3, 0] rfl) hF
/-! RouteSpeaker$Route.isBarred()Z -/
theorem d_Ro_isBarred_0 : decode prog_8_method_6_code 0 = .ok (.aload_n 0, 1) := by decide +kernel
theorem d_Ro_isBarred_1 : decode prog_8_method_6_code 1 = .ok (.getfield 37, 3) := by decide +kernel
theorem d_Ro_isBarred_4 : decode prog_8_method_6_code 4 = .ok (.bipush (7), 2) := by decide +kernel
theorem d_Ro_isBarred_6 : decode prog_8_method_6_code 6 = .ok (.if_icmp .eq (35), 3) := by decide +kernel
theorem d_Ro_isBarred_9 : decode prog_8_method_6_code 9 = .ok (.aload_n 0, 1) := by decide +kernel
theorem d_Ro_isBarred_10 : decode prog_8_method_6_code 10 = .ok (.getfield 9, 3) := by decide +kernel
theorem d_Ro_isBarred_13 : decode prog_8_method_6_code 13 = .ok (.aload_n 0, 1) := by decide +kernel
theorem d_Ro_isBarred_14 : decode prog_8_method_6_code 14 = .ok (.getfield 28, 3) := by decide +kernel
theorem d_Ro_isBarred_17 : decode prog_8_method_6_code 17 = .ok (.bipush (100), 2) := by decide +kernel
theorem d_Ro_isBarred_19 : decode prog_8_method_6_code 19 = .ok (.invokestatic 53, 3) := by decide +kernel
theorem d_Ro_isBarred_22 : decode prog_8_method_6_code 22 = .ok (.ifCond .ne (19), 3) := by decide +kernel
theorem d_Ro_isBarred_25 : decode prog_8_method_6_code 25 = .ok (.aload_n 0, 1) := by decide +kernel
theorem d_Ro_isBarred_26 : decode prog_8_method_6_code 26 = .ok (.getfield 22, 3) := by decide +kernel
theorem d_Ro_isBarred_29 : decode prog_8_method_6_code 29 = .ok (.aload_n 0, 1) := by decide +kernel
theorem d_Ro_isBarred_30 : decode prog_8_method_6_code 30 = .ok (.getfield 40, 3) := by decide +kernel
theorem d_Ro_isBarred_33 : decode prog_8_method_6_code 33 = .ok (.bipush (7), 2) := by decide +kernel
theorem d_Ro_isBarred_35 : decode prog_8_method_6_code 35 = .ok (.invokestatic 53, 3) := by decide +kernel
theorem d_Ro_isBarred_38 : decode prog_8_method_6_code 38 = .ok (.ifCond .eq (7), 3) := by decide +kernel
theorem d_Ro_isBarred_41 : decode prog_8_method_6_code 41 = .ok (.iconst 1, 1) := by decide +kernel
theorem d_Ro_isBarred_42 : decode prog_8_method_6_code 42 = .ok (.goto (4), 3) := by decide +kernel
theorem d_Ro_isBarred_45 : decode prog_8_method_6_code 45 = .ok (.iconst 0, 1) := by decide +kernel
theorem d_Ro_isBarred_46 : decode prog_8_method_6_code 46 = .ok (.ireturn, 1) := by decide +kernel
def F_Ro_isBarred (N : Nat → Nat) (v0 : Nat) (σ : rs_Mem) (Q : Int32 → rs_Mem → Prop) : Prop :=
  (((rs_I σ v0 6) = (7 : Int32) → (Q (1 : Int32) σ)) ∧ (¬ ((rs_I σ v0 6) = (7 : Int32)) → (F_Ro_startHas N (rs_R σ v0 2) (rs_I σ v0 1) (100 : Int32) σ (fun x53 σ52 => ((¬ (x53 = 0) → (Q (1 : Int32) σ52)) ∧ (x53 = 0 → (F_Ro_startHas N (rs_R σ52 v0 8) (rs_I σ52 v0 7) (7 : Int32) σ52 (fun x56 σ55 => ((x56 = 0 → (Q (0 : Int32) σ55)) ∧ (¬ (x56 = 0) → (Q (1 : Int32) σ55)))))))))))
abbrev y_Ro_isBarred : MethodName := ({ cls := "RouteSpeaker$Route", name := "isBarred", desc := "()Z" } : Jvm.MethodName)
theorem rc_Ro_isBarred : rs_Cal y_Ro_isBarred prog_8_method_6_code 1 (some .boolean) 0 := ⟨tw_400, tw_3, by decide, by decide, by decide +kernel⟩
set_option maxRecDepth 20000 in
theorem J_Ro_isBarred (l : Launch) {G : rs_G} {Bm : Nat} {S : rs_Shp} {v0 : Nat} {σ : rs_Mem} {Q : Int32 → rs_Mem → Prop} (h_v0 : rs_Ok S 8 v0) (hF : F_Ro_isBarred S.2.2 v0 σ Q) :
    Met l y_Ro_isBarred (rs_ws y_Ro_isBarred prog_8_method_6_code 1 (some .boolean)) { frames := 1, cells := 0, slots := 0, locals := 23 } (rs_P G Bm S σ [.ref (Bm + v0)]) (rs_Qi G Bm S Q) 0 0 (rs_A Bm) := by
  refine rs_met (own := "RouteSpeaker$Route") (by decide) rfl (Nat.le_of_ble_eq_true rfl) (fun p e s m below meth c ls C hl hH hT hS => ?_)
  replace hl : lv_has ls 1 [(0, .ref (Bm + v0))] := hl
  have hx := C.1
  have hb := C.2.1
  unfold F_Ro_isBarred at hF
  refine lv_aload_n hx hb d_Ro_isBarred_0 rfl (lv_at hl 0 rfl) ?_
  refine rs_getI C hH h_v0 fk_8_6 tw_84 d_Ro_isBarred_1 ?_
  refine lv_bipush hx hb d_Ro_isBarred_4 kb_7 ?_
  refine lv_icmp_eq hx hb d_Ro_isBarred_6 (tgt := 41) rfl (fun hc => ?_) (fun hc => ?_)
  · replace hF := hF.1 hc
    refine lv_iconst hx hb d_Ro_isBarred_41 ki_1 ?_
    refine lv_goto hx hb d_Ro_isBarred_42 (tgt := 46) rfl ?_
    exact rs_zret C hH hT hS (by decide) hF d_Ro_isBarred_46
  · replace hF := hF.2 hc
    refine lv_aload_n hx hb d_Ro_isBarred_9 rfl (lv_at hl 0 rfl) ?_
    refine rs_getR C hH hT h_v0 fk_8_2 tw_70 d_Ro_isBarred_10 (fun h51 => ?_)
    refine lv_aload_n hx hb d_Ro_isBarred_13 rfl (lv_at hl 0 rfl) ?_
    refine rs_getI C hH h_v0 fk_8_1 tw_66 d_Ro_isBarred_14 ?_
    refine lv_bipush hx hb d_Ro_isBarred_17 kb_100 ?_
    refine rs_ci (rs_runS C hH hT hl (J_Ro_startHas l h51 hF) rc_Ro_startHas tw_401 tw_402 rfl ⟨⟨rfl, rfl⟩, by decide, by decide, by decide⟩ (Nat.le_of_ble_eq_true rfl) rfl d_Ro_isBarred_19) hS (fun x53 σ52 H locs hH hT hS hF => ?_)
    refine lv_if_ne hx hb d_Ro_isBarred_22 (tgt := 41) rfl (fun hc => ?_) (fun hc => ?_)
    · replace hF := hF.1 hc
      refine lv_iconst hx hb d_Ro_isBarred_41 ki_1 ?_
      refine lv_goto hx hb d_Ro_isBarred_42 (tgt := 46) rfl ?_
      exact rs_zret C hH hT hS (by decide) hF d_Ro_isBarred_46
    · replace hF := hF.2 hc
      refine lv_aload_n hx hb d_Ro_isBarred_25 rfl (lv_at hl 0 rfl) ?_
      refine rs_getR C hH hT h_v0 fk_8_8 tw_90 d_Ro_isBarred_26 (fun h54 => ?_)
      refine lv_aload_n hx hb d_Ro_isBarred_29 rfl (lv_at hl 0 rfl) ?_
      refine rs_getI C hH h_v0 fk_8_7 tw_86 d_Ro_isBarred_30 ?_
      refine lv_bipush hx hb d_Ro_isBarred_33 kb_7 ?_
      refine rs_ci (rs_runS C hH hT hl (J_Ro_startHas l h54 hF) rc_Ro_startHas tw_401 tw_402 rfl ⟨⟨rfl, rfl⟩, by decide, by decide, by decide⟩ (Nat.le_of_ble_eq_true rfl) rfl d_Ro_isBarred_35) hS (fun x56 σ55 H locs hH hT hS hF => ?_)
      refine lv_if_eq hx hb d_Ro_isBarred_38 (tgt := 45) rfl (fun hc => ?_) (fun hc => ?_)
      · replace hF := hF.1 hc
        refine lv_iconst hx hb d_Ro_isBarred_45 ki_0 ?_
        exact rs_zret C hH hT hS (by decide) hF d_Ro_isBarred_46
      · replace hF := hF.2 hc
        refine lv_iconst hx hb d_Ro_isBarred_41 ki_1 ?_
        refine lv_goto hx hb d_Ro_isBarred_42 (tgt := 46) rfl ?_
        exact rs_zret C hH hT hS (by decide) hF d_Ro_isBarred_46
/-! RouteSpeaker.isWithin(IIII)Z -/
theorem d_Sp_isWithin_0 : decode prog_1_method_22_code 0 = .ok (.iload_n 0, 1) := by decide +kernel
theorem d_Sp_isWithin_1 : decode prog_1_method_22_code 1 = .ok (.iload_n 2, 1) := by decide +kernel
theorem d_Sp_isWithin_2 : decode prog_1_method_22_code 2 = .ok (.if_icmp .lt (18), 3) := by decide +kernel
theorem d_Sp_isWithin_5 : decode prog_1_method_22_code 5 = .ok (.iload_n 1, 1) := by decide +kernel
theorem d_Sp_isWithin_6 : decode prog_1_method_22_code 6 = .ok (.iload_n 3, 1) := by decide +kernel
theorem d_Sp_isWithin_7 : decode prog_1_method_22_code 7 = .ok (.ixor, 1) := by decide +kernel
theorem d_Sp_isWithin_8 : decode prog_1_method_22_code 8 = .ok (.sipush (255), 3) := by decide +kernel
theorem d_Sp_isWithin_11 : decode prog_1_method_22_code 11 = .ok (.iload_n 2, 1) := by decide +kernel
theorem d_Sp_isWithin_12 : decode prog_1_method_22_code 12 = .ok (.ishr, 1) := by decide +kernel
theorem d_Sp_isWithin_13 : decode prog_1_method_22_code 13 = .ok (.if_icmp .gt (7), 3) := by decide +kernel
theorem d_Sp_isWithin_16 : decode prog_1_method_22_code 16 = .ok (.iconst 1, 1) := by decide +kernel
theorem d_Sp_isWithin_17 : decode prog_1_method_22_code 17 = .ok (.goto (4), 3) := by decide +kernel
theorem d_Sp_isWithin_20 : decode prog_1_method_22_code 20 = .ok (.iconst 0, 1) := by decide +kernel
theorem d_Sp_isWithin_21 : decode prog_1_method_22_code 21 = .ok (.ireturn, 1) := by decide +kernel
def F_Sp_isWithin (N : Nat → Nat) (x0 : Int32) (x1 : Int32) (x2 : Int32) (x3 : Int32) (σ : rs_Mem) (Q : Int32 → rs_Mem → Prop) : Prop :=
  ((x0 < x2 → (Q (0 : Int32) σ)) ∧ (¬ (x0 < x2) → ((((255 : Int32) >>> (x2 &&& 31)) < (x1 ^^^ x3) → (Q (0 : Int32) σ)) ∧ (¬ (((255 : Int32) >>> (x2 &&& 31)) < (x1 ^^^ x3)) → (Q (1 : Int32) σ)))))
abbrev y_Sp_isWithin : MethodName := ({ cls := "RouteSpeaker", name := "isWithin", desc := "(IIII)Z" } : Jvm.MethodName)
theorem rc_Sp_isWithin : rs_Cal y_Sp_isWithin prog_1_method_22_code 4 (some .boolean) 4 := ⟨tw_410, tw_1, by decide, by decide, by decide +kernel⟩
set_option maxRecDepth 20000 in
theorem J_Sp_isWithin (l : Launch) {G : rs_G} {Bm : Nat} {S : rs_Shp} {x0 : Int32} {x1 : Int32} {x2 : Int32} {x3 : Int32} {σ : rs_Mem} {Q : Int32 → rs_Mem → Prop} (hF : F_Sp_isWithin S.2.2 x0 x1 x2 x3 σ Q) :
    Met l y_Sp_isWithin (rs_ws y_Sp_isWithin prog_1_method_22_code 4 (some .boolean)) { frames := 0, cells := 0, slots := 0, locals := 0 } (rs_P G Bm S σ [.int x0, .int x1, .int x2, .int x3]) (rs_Qi G Bm S Q) 0 0 (rs_A Bm) := by
  refine rs_met (own := "RouteSpeaker") (by decide) rfl (Nat.le_of_ble_eq_true rfl) (fun p e s m below meth c ls C hl hH hT hS => ?_)
  replace hl : lv_has ls 4 [(0, .int x0), (1, .int x1), (2, .int x2), (3, .int x3)] := hl
  have hx := C.1
  have hb := C.2.1
  unfold F_Sp_isWithin at hF
  refine lv_iload_n hx hb d_Sp_isWithin_0 rfl (lv_at hl 0 rfl) ?_
  refine lv_iload_n hx hb d_Sp_isWithin_1 rfl (lv_at hl 2 rfl) ?_
  refine lv_icmp_lt hx hb d_Sp_isWithin_2 (tgt := 20) rfl (fun hc => ?_) (fun hc => ?_)
  · replace hF := hF.1 hc
    refine lv_iconst hx hb d_Sp_isWithin_20 ki_0 ?_
    exact rs_zret C hH hT hS (by decide) hF d_Sp_isWithin_21
  · replace hF := hF.2 hc
    refine lv_iload_n hx hb d_Sp_isWithin_5 rfl (lv_at hl 1 rfl) ?_
    refine lv_iload_n hx hb d_Sp_isWithin_6 rfl (lv_at hl 3 rfl) ?_
    refine lv_ixor hx hb d_Sp_isWithin_7 ?_
    refine lv_sipush hx hb d_Sp_isWithin_8 ks_255 ?_
    refine lv_iload_n hx hb d_Sp_isWithin_11 rfl (lv_at hl 2 rfl) ?_
    refine lv_ishr hx hb d_Sp_isWithin_12 ?_
    refine lv_icmp_gt hx hb d_Sp_isWithin_13 (tgt := 20) rfl (fun hc => ?_) (fun hc => ?_)
    · replace hF := hF.1 hc
      refine lv_iconst hx hb d_Sp_isWithin_20 ki_0 ?_
      exact rs_zret C hH hT hS (by decide) hF d_Sp_isWithin_21
    · replace hF := hF.2 hc
      refine lv_iconst hx hb d_Sp_isWithin_16 ki_1 ?_
      refine lv_goto hx hb d_Sp_isWithin_17 (tgt := 21) rfl ?_
      exact rs_zret C hH hT hS (by decide) hF d_Sp_isWithin_21
/-! RouteSpeaker$Rules.actionFor(II)I -/
theorem d_Ru_actionFor_0 : decode prog_9_method_4_code 0 = .ok (.iconst 0, 1) := by decide +kernel
theorem d_Ru_actionFor_1 : decode prog_9_method_4_code 1 = .ok (.istore_n 3, 1) := by decide +kernel
theorem d_Ru_actionFor_2 : decode prog_9_method_4_code 2 = .ok (.iload_n 3, 1) := by decide +kernel
theorem d_Ru_actionFor_3 : decode prog_9_method_4_code 3 = .ok (.aload_n 0, 1) := by decide +kernel
theorem d_Ru_actionFor_4 : decode prog_9_method_4_code 4 = .ok (.getfield 21, 3) := by decide +kernel
theorem d_Ru_actionFor_7 : decode prog_9_method_4_code 7 = .ok (.if_icmp .ge (36), 3) := by decide +kernel
theorem d_Ru_actionFor_10 : decode prog_9_method_4_code 10 = .ok (.iload_n 1, 1) := by decide +kernel
theorem d_Ru_actionFor_11 : decode prog_9_method_4_code 11 = .ok (.iload_n 2, 1) := by decide +kernel
theorem d_Ru_actionFor_12 : decode prog_9_method_4_code 12 = .ok (.aload_n 0, 1) := by decide +kernel
theorem d_Ru_actionFor_13 : decode prog_9_method_4_code 13 = .ok (.getfield 9, 3) := by decide +kernel
theorem d_Ru_actionFor_16 : decode prog_9_method_4_code 16 = .ok (.iload_n 3, 1) := by decide +kernel
theorem d_Ru_actionFor_17 : decode prog_9_method_4_code 17 = .ok (.iaload, 1) := by decide +kernel
theorem d_Ru_actionFor_18 : decode prog_9_method_4_code 18 = .ok (.aload_n 0, 1) := by decide +kernel
theorem d_Ru_actionFor_19 : decode prog_9_method_4_code 19 = .ok (.getfield 15, 3) := by decide +kernel
theorem d_Ru_actionFor_22 : decode prog_9_method_4_code 22 = .ok (.iload_n 3, 1) := by decide +kernel
theorem d_Ru_actionFor_23 : decode prog_9_method_4_code 23 = .ok (.iaload, 1) := by decide +kernel
theorem d_Ru_actionFor_24 : decode prog_9_method_4_code 24 = .ok (.invokestatic 25, 3) := by decide +kernel
theorem d_Ru_actionFor_27 : decode prog_9_method_4_code 27 = .ok (.ifCond .eq (10), 3) := by decide +kernel
theorem d_Ru_actionFor_30 : decode prog_9_method_4_code 30 = .ok (.aload_n 0, 1) := by decide +kernel
theorem d_Ru_actionFor_31 : decode prog_9_method_4_code 31 = .ok (.getfield 18, 3) := by decide +kernel
theorem d_Ru_actionFor_34 : decode prog_9_method_4_code 34 = .ok (.iload_n 3, 1) := by decide +kernel
theorem d_Ru_actionFor_35 : decode prog_9_method_4_code 35 = .ok (.iaload, 1) := by decide +kernel
theorem d_Ru_actionFor_36 : decode prog_9_method_4_code 36 = .ok (.ireturn, 1) := by decide +kernel
theorem d_Ru_actionFor_37 : decode prog_9_method_4_code 37 = .ok (.iinc 3 (1), 3) := by decide +kernel
theorem d_Ru_actionFor_40 : decode prog_9_method_4_code 40 = .ok (.goto (-38), 3) := by decide +kernel
theorem d_Ru_actionFor_43 : decode prog_9_method_4_code 43 = .ok (.iconst (-1), 1) := by decide +kernel
theorem d_Ru_actionFor_44 : decode prog_9_method_4_code 44 = .ok (.ireturn, 1) := by decide +kernel
def G_Ru_actionFor_2 (N : Nat → Nat) (Q : Int32 → rs_Mem → Prop) (K2 : Nat → Int32 → Int32 → Int32 → rs_Mem → Prop) (v0 : Nat) (x1 : Int32) (x2 : Int32) (x3 : Int32) (σ : rs_Mem) : Prop :=
  (((rs_I σ v0 3) ≤ x3 → (Q (-1 : Int32) σ)) ∧ (¬ ((rs_I σ v0 3) ≤ x3) → (vp_in x3 (N (rs_R σ v0 0)) ∧ (vp_in x3 (N (rs_R σ v0 1)) ∧ (F_Sp_isWithin N x1 x2 (rs_I σ (rs_R σ v0 0) x3.toNatClampNeg) (rs_I σ (rs_R σ v0 1) x3.toNatClampNeg) σ (fun x56 σ55 => ((x56 = 0 → (∀ x57 : Int32, x57 = x3 + (1 : Int32) → (K2 v0 x1 x2 x57 σ55))) ∧ (¬ (x56 = 0) → (vp_in x3 (N (rs_R σ55 v0 2)) ∧ (Q (rs_I σ55 (rs_R σ55 v0 2) x3.toNatClampNeg) σ55))))))))))
noncomputable def L_Ru_actionFor_2 (N : Nat → Nat) (Q : Int32 → rs_Mem → Prop) (n : Nat) : Nat → Int32 → Int32 → Int32 → rs_Mem → Prop := Nat.rec (motive := fun _ => Nat → Int32 → Int32 → Int32 → rs_Mem → Prop) (fun _ _ _ _ _ => False) (fun _ K => G_Ru_actionFor_2 N Q K) n
def F_Ru_actionFor (N : Nat → Nat) (v0 : Nat) (x1 : Int32) (x2 : Int32) (σ : rs_Mem) (Q : Int32 → rs_Mem → Prop) : Prop :=
  (∃ n : Nat, L_Ru_actionFor_2 N Q n v0 x1 x2 (0 : Int32) σ)
set_option maxRecDepth 20000 in
theorem JL_Ru_actionFor_2 {p : Program} {l : Launch} {e : Env} {s : State} {m : MethodId} {args : Array Value} {below : List Frame} {meth : Method} {c : Code} {G : rs_G} {Bm : Nat} {S : rs_Shp} {Q : Int32 → rs_Mem → Prop} (C : rs_C "RouteSpeaker$Rules" prog_9_method_4_code 4 (some .int) G p s m meth c args) : ∀ n : Nat, ∀ (v0 : Nat) (x1 : Int32) (x2 : Int32) (x3 : Int32) (σ : rs_Mem) (H : Heap) (locs : List Loc) (ls : Array Slot), rs_Ok S 9 v0 → rs_H G Bm S σ H → rs_T S σ → va_S (rs_A Bm) s.heap H locs → lv_has ls 4 [(0, .ref (Bm + v0)), (1, .int x1), (2, .int x2), (3, .int x3)] → (L_Ru_actionFor_2 S.2.2 Q n) v0 x1 x2 x3 σ → W p l e { frames := 1, cells := 0, slots := 0, locals := 23 } s m args below meth c H locs 0 0 (MQ below (rs_Qi G Bm S Q) args s 0 0 (rs_A Bm)) (F0 m 2 ls []) := by
  have hx := C.1
  have hb := C.2.1
  intro n
  induction n with
  | zero => intros; rename_i hF; exact hF.elim
  | succ n hK2 =>
    intro v0 x1 x2 x3 σ H locs ls h_v0 hH hT hS hl hF
    replace hF : G_Ru_actionFor_2 S.2.2 Q (L_Ru_actionFor_2 S.2.2 Q n) v0 x1 x2 x3 σ := hF
    unfold G_Ru_actionFor_2 at hF
    refine lv_iload_n hx hb d_Ru_actionFor_2 rfl (lv_at hl 3 rfl) ?_
    refine lv_aload_n hx hb d_Ru_actionFor_3 rfl (lv_at hl 0 rfl) ?_
    refine rs_getI C hH h_v0 fk_9_3 tw_201 d_Ru_actionFor_4 ?_
    refine lv_icmp_ge hx hb d_Ru_actionFor_7 (tgt := 43) rfl (fun hc => ?_) (fun hc => ?_)
    · replace hF := hF.1 hc
      refine lv_iconst hx hb d_Ru_actionFor_43 ki_m1 ?_
      exact rs_iret C hH hT hS hF d_Ru_actionFor_44
    · replace hF := hF.2 hc
      refine lv_iload_n hx hb d_Ru_actionFor_10 rfl (lv_at hl 1 rfl) ?_
      refine lv_iload_n hx hb d_Ru_actionFor_11 rfl (lv_at hl 2 rfl) ?_
      refine lv_aload_n hx hb d_Ru_actionFor_12 rfl (lv_at hl 0 rfl) ?_
      refine rs_getR C hH hT h_v0 fk_9_0 tw_198 d_Ru_actionFor_13 (fun h51 => ?_)
      refine lv_iload_n hx hb d_Ru_actionFor_16 rfl (lv_at hl 3 rfl) ?_
      obtain ⟨g52, hF⟩ := hF
      refine rs_iald C hH h51 g52 d_Ru_actionFor_17 ?_
      refine lv_aload_n hx hb d_Ru_actionFor_18 rfl (lv_at hl 0 rfl) ?_
      refine rs_getR C hH hT h_v0 fk_9_1 tw_199 d_Ru_actionFor_19 (fun h53 => ?_)
      refine lv_iload_n hx hb d_Ru_actionFor_22 rfl (lv_at hl 3 rfl) ?_
      obtain ⟨g54, hF⟩ := hF
      refine rs_iald C hH h53 g54 d_Ru_actionFor_23 ?_
      refine rs_ci (rs_runSN C hH hT hl (J_Sp_isWithin l hF) rc_Sp_isWithin (host := "RouteSpeaker") nw_0 tw_409 rfl ⟨⟨rfl, rfl⟩, by decide, by decide, by decide⟩ (Nat.le_of_ble_eq_true rfl) rfl d_Ru_actionFor_24) hS (fun x56 σ55 H locs hH hT hS hF => ?_)
      refine lv_if_eq hx hb d_Ru_actionFor_27 (tgt := 37) rfl (fun hc => ?_) (fun hc => ?_)
      · replace hF := hF.1 hc
        obtain ⟨x57, ex57⟩ : ∃ z : Int32, z = x3 + (1 : Int32) := ⟨_, rfl⟩
        replace hF := hF x57 ex57
        refine lv_iinc hx hb d_Ru_actionFor_37 hl (k := 3) rfl (v := x57) (by rw [ki_1, ex57]) (by decide) (lv' := [(3, .int x57), (0, .ref (Bm + v0)), (1, .int x1), (2, .int x2)]) rfl (fun ls hl => ?_)
        refine lv_goto hx hb d_Ru_actionFor_40 (tgt := 2) rfl ?_
        exact hK2 v0 x1 x2 x57 σ55 _ _ _ h_v0 hH hT hS (lv_sub hl [1, 2, 3, 0] rfl) hF
      · replace hF := hF.2 hc
        refine lv_aload_n hx hb d_Ru_actionFor_30 rfl (lv_at hl 0 rfl) ?_
        refine rs_getR C hH hT h_v0 fk_9_2 tw_200 d_Ru_actionFor_31 (fun h57 => ?_)
        refine lv_iload_n hx hb d_Ru_actionFor_34 rfl (lv_at hl 3 rfl) ?_
        obtain ⟨g58, hF⟩ := hF
        refine rs_iald C hH h57 g58 d_Ru_actionFor_35 ?_
        exact rs_iret C hH hT hS hF d_Ru_actionFor_36
abbrev y_Ru_actionFor : MethodName := ({ cls := "RouteSpeaker$Rules", name := "actionFor", desc := "(II)I" } : Jvm.MethodName)
theorem rc_Ru_actionFor : rs_Cal y_Ru_actionFor prog_9_method_4_code 4 (some .int) 2 := ⟨tw_407, tw_8, by decide, by decide, by decide +kernel⟩
set_option maxRecDepth 20000 in
theorem J_Ru_actionFor (l : Launch) {G : rs_G} {Bm : Nat} {S : rs_Shp} {v0 : Nat} {x1 : Int32} {x2 : Int32} {σ : rs_Mem} {Q : Int32 → rs_Mem → Prop} (h_v0 : rs_Ok S 9 v0) (hF : F_Ru_actionFor S.2.2 v0 x1 x2 σ Q) :
    Met l y_Ru_actionFor (rs_ws y_Ru_actionFor prog_9_method_4_code 4 (some .int)) { frames := 1, cells := 0, slots := 0, locals := 23 } (rs_P G Bm S σ [.ref (Bm + v0), .int x1, .int x2]) (rs_Qi G Bm S Q) 0 0 (rs_A Bm) := by
  refine rs_met (own := "RouteSpeaker$Rules") (by decide) rfl (Nat.le_of_ble_eq_true rfl) (fun p e s m below meth c ls C hl hH hT hS => ?_)
  replace hl : lv_has ls 4 [(0, .ref (Bm + v0)), (1, .int x1), (2, .int x2)] := hl
  have hx := C.1
  have hb := C.2.1
  unfold F_Ru_actionFor at hF
  refine lv_iconst hx hb d_Ru_actionFor_0 ki_0 ?_
  refine lv_istore_n hx hb d_Ru_actionFor_1 rfl hl (by decide) (lv' := [(3, .int (0 : Int32)), (0, .ref (Bm + v0)), (1, .int x1), (2, .int x2)]) rfl (fun ls hl => ?_)
  obtain ⟨n, hF⟩ := hF
  exact JL_Ru_actionFor_2 C n v0 x1 x2 (0 : Int32) σ _ _ _ h_v0 hH hT hS (lv_sub hl [1, 2, 3, 0] rfl) hF
/-! RouteSpeaker.flawsOf(II)I -/
theorem d_Sp_flawsOf_0 : decode prog_1_method_25_code 0 = .ok (.aload_n 0, 1) := by decide +kernel
theorem d_Sp_flawsOf_1 : decode prog_1_method_25_code 1 = .ok (.getfield 18, 3) := by decide +kernel
theorem d_Sp_flawsOf_4 : decode prog_1_method_25_code 4 = .ok (.iload_n 1, 1) := by decide +kernel
theorem d_Sp_flawsOf_5 : decode prog_1_method_25_code 5 = .ok (.aaload, 1) := by decide +kernel
theorem d_Sp_flawsOf_6 : decode prog_1_method_25_code 6 = .ok (.getfield 150, 3) := by decide +kernel
theorem d_Sp_flawsOf_9 : decode prog_1_method_25_code 9 = .ok (.astore_n 3, 1) := by decide +kernel
theorem d_Sp_flawsOf_10 : decode prog_1_method_25_code 10 = .ok (.aload_n 3, 1) := by decide +kernel
theorem d_Sp_flawsOf_11 : decode prog_1_method_25_code 11 = .ok (.getfield 219, 3) := by decide +kernel
theorem d_Sp_flawsOf_14 : decode prog_1_method_25_code 14 = .ok (.iload_n 2, 1) := by decide +kernel
theorem d_Sp_flawsOf_15 : decode prog_1_method_25_code 15 = .ok (.aaload, 1) := by decide +kernel
theorem d_Sp_flawsOf_16 : decode prog_1_method_25_code 16 = .ok (.invokevirtual 229, 3) := by decide +kernel
theorem d_Sp_flawsOf_19 : decode prog_1_method_25_code 19 = .ok (.ifCond .eq (7), 3) := by decide +kernel
theorem d_Sp_flawsOf_22 : decode prog_1_method_25_code 22 = .ok (.iconst 1, 1) := by decide +kernel
theorem d_Sp_flawsOf_23 : decode prog_1_method_25_code 23 = .ok (.goto (4), 3) := by decide +kernel
theorem d_Sp_flawsOf_26 : decode prog_1_method_25_code 26 = .ok (.iconst 0, 1) := by decide +kernel
theorem d_Sp_flawsOf_27 : decode prog_1_method_25_code 27 = .ok (.aload_n 3, 1) := by decide +kernel
theorem d_Sp_flawsOf_28 : decode prog_1_method_25_code 28 = .ok (.getfield 232, 3) := by decide +kernel
theorem d_Sp_flawsOf_31 : decode prog_1_method_25_code 31 = .ok (.iload_n 2, 1) := by decide +kernel
theorem d_Sp_flawsOf_32 : decode prog_1_method_25_code 32 = .ok (.baload, 1) := by decide +kernel
theorem d_Sp_flawsOf_33 : decode prog_1_method_25_code 33 = .ok (.ifCond .eq (7), 3) := by decide +kernel
theorem d_Sp_flawsOf_36 : decode prog_1_method_25_code 36 = .ok (.iconst 2, 1) := by decide +kernel
theorem d_Sp_flawsOf_37 : decode prog_1_method_25_code 37 = .ok (.goto (4), 3) := by decide +kernel
theorem d_Sp_flawsOf_40 : decode prog_1_method_25_code 40 = .ok (.iconst 0, 1) := by decide +kernel
theorem d_Sp_flawsOf_41 : decode prog_1_method_25_code 41 = .ok (.iadd, 1) := by decide +kernel
theorem d_Sp_flawsOf_42 : decode prog_1_method_25_code 42 = .ok (.aload_n 0, 1) := by decide +kernel
theorem d_Sp_flawsOf_43 : decode prog_1_method_25_code 43 = .ok (.getfield 18, 3) := by decide +kernel
theorem d_Sp_flawsOf_46 : decode prog_1_method_25_code 46 = .ok (.iload_n 1, 1) := by decide +kernel
theorem d_Sp_flawsOf_47 : decode prog_1_method_25_code 47 = .ok (.aaload, 1) := by decide +kernel
theorem d_Sp_flawsOf_48 : decode prog_1_method_25_code 48 = .ok (.getfield 84, 3) := by decide +kernel
theorem d_Sp_flawsOf_51 : decode prog_1_method_25_code 51 = .ok (.aload_n 0, 1) := by decide +kernel
theorem d_Sp_flawsOf_52 : decode prog_1_method_25_code 52 = .ok (.getfield 10, 3) := by decide +kernel
theorem d_Sp_flawsOf_55 : decode prog_1_method_25_code 55 = .ok (.getfield 208, 3) := by decide +kernel
theorem d_Sp_flawsOf_58 : decode prog_1_method_25_code 58 = .ok (.iload_n 2, 1) := by decide +kernel
theorem d_Sp_flawsOf_59 : decode prog_1_method_25_code 59 = .ok (.iaload, 1) := by decide +kernel
theorem d_Sp_flawsOf_60 : decode prog_1_method_25_code 60 = .ok (.aload_n 0, 1) := by decide +kernel
theorem d_Sp_flawsOf_61 : decode prog_1_method_25_code 61 = .ok (.getfield 10, 3) := by decide +kernel
theorem d_Sp_flawsOf_64 : decode prog_1_method_25_code 64 = .ok (.getfield 212, 3) := by decide +kernel
theorem d_Sp_flawsOf_67 : decode prog_1_method_25_code 67 = .ok (.iload_n 2, 1) := by decide +kernel
theorem d_Sp_flawsOf_68 : decode prog_1_method_25_code 68 = .ok (.iaload, 1) := by decide +kernel
theorem d_Sp_flawsOf_69 : decode prog_1_method_25_code 69 = .ok (.invokevirtual 223, 3) := by decide +kernel
theorem d_Sp_flawsOf_72 : decode prog_1_method_25_code 72 = .ok (.ifCond .ne (7), 3) := by decide +kernel
theorem d_Sp_flawsOf_75 : decode prog_1_method_25_code 75 = .ok (.iconst 4, 1) := by decide +kernel
theorem d_Sp_flawsOf_76 : decode prog_1_method_25_code 76 = .ok (.goto (4), 3) := by decide +kernel
theorem d_Sp_flawsOf_79 : decode prog_1_method_25_code 79 = .ok (.iconst 0, 1) := by decide +kernel
theorem d_Sp_flawsOf_80 : decode prog_1_method_25_code 80 = .ok (.iadd, 1) := by decide +kernel
theorem d_Sp_flawsOf_81 : decode prog_1_method_25_code 81 = .ok (.ireturn, 1) := by decide +kernel
def B_Sp_flawsOf_41 (N : Nat → Nat) (Q : Int32 → rs_Mem → Prop) (v0 : Nat) (x1 : Int32) (x2 : Int32) (y0 : Int32) (y1 : Int32) (σ : rs_Mem) : Prop :=
  (vp_in x1 (N (rs_R σ v0 1)) ∧ (vp_in x2 (N (rs_R σ (rs_R σ v0 0) 0)) ∧ (vp_in x2 (N (rs_R σ (rs_R σ v0 0) 1)) ∧ (F_Ru_actionFor N (rs_R σ (rs_R σ (rs_R σ v0 1) x1.toNatClampNeg) 5) (rs_I σ (rs_R σ (rs_R σ v0 0) 0) x2.toNatClampNeg) (rs_I σ (rs_R σ (rs_R σ v0 0) 1) x2.toNatClampNeg) σ (fun x62 σ61 => ((¬ (x62 = 0) → (Q ((y0 + y1) + (0 : Int32)) σ61)) ∧ (x62 = 0 → (Q ((y0 + y1) + (4 : Int32)) σ61))))))))
def B_Sp_flawsOf_27 (N : Nat → Nat) (Q : Int32 → rs_Mem → Prop) (v0 : Nat) (x1 : Int32) (x2 : Int32) (v3 : Nat) (y0 : Int32) (σ : rs_Mem) : Prop :=
  (vp_in x2 (N (rs_R σ v3 1)) ∧ (((rs_I σ (rs_R σ v3 1) x2.toNatClampNeg) = 0 → (B_Sp_flawsOf_41 N Q v0 x1 x2 y0 (0 : Int32) σ)) ∧ (¬ ((rs_I σ (rs_R σ v3 1) x2.toNatClampNeg) = 0) → (B_Sp_flawsOf_41 N Q v0 x1 x2 y0 (2 : Int32) σ))))
def F_Sp_flawsOf (N : Nat → Nat) (v0 : Nat) (x1 : Int32) (x2 : Int32) (σ : rs_Mem) (Q : Int32 → rs_Mem → Prop) : Prop :=
  (vp_in x1 (N (rs_R σ v0 1)) ∧ (∀ v55 : Nat, v55 = (rs_R σ (rs_R σ (rs_R σ v0 1) x1.toNatClampNeg) 15) → (vp_in x2 (N (rs_R σ v55 0)) ∧ (F_Ro_isBarred N (rs_R σ (rs_R σ v55 0) x2.toNatClampNeg) σ (fun x60 σ59 => ((x60 = 0 → (B_Sp_flawsOf_27 N Q v0 x1 x2 v55 (0 : Int32) σ59)) ∧ (¬ (x60 = 0) → (B_Sp_flawsOf_27 N Q v0 x1 x2 v55 (1 : Int32) σ59))))))))
set_option maxRecDepth 20000 in
theorem JB_Sp_flawsOf_41 {p : Program} {l : Launch} {e : Env} {s : State} {m : MethodId} {args : Array Value} {below : List Frame} {meth : Method} {c : Code} {G : rs_G} {Bm : Nat} {S : rs_Shp} {Q : Int32 → rs_Mem → Prop} (C : rs_C "RouteSpeaker" prog_1_method_25_code 4 (some .int) G p s m meth c args) (v0 : Nat) (x1 : Int32) (x2 : Int32) (y0 : Int32) (y1 : Int32) (σ : rs_Mem) (H : Heap) (locs : List Loc) (ls : Array Slot) (h_v0 : rs_Ok S 1 v0) (hH : rs_H G Bm S σ H) (hT : rs_T S σ) (hS : va_S (rs_A Bm) s.heap H locs) (hl : lv_has ls 4 [(0, .ref (Bm + v0)), (1, .int x1), (2, .int x2)]) (hF : B_Sp_flawsOf_41 S.2.2 Q v0 x1 x2 y0 y1 σ) :
    W p l e { frames := 2, cells := 0, slots := 0, locals := 46 } s m args below meth c H locs 0 0 (MQ below (rs_Qi G Bm S Q) args s 0 0 (rs_A Bm)) (F0 m 41 ls [.int y1, .int y0]) := by
  have hx := C.1
  have hb := C.2.1
  unfold B_Sp_flawsOf_41 at hF
  refine lv_iadd hx hb d_Sp_flawsOf_41 ?_
  refine lv_aload_n hx hb d_Sp_flawsOf_42 rfl (lv_at hl 0 rfl) ?_
  refine rs_getR C hH hT h_v0 fk_1_1 tw_321 d_Sp_flawsOf_43 (fun h51 => ?_)
  refine lv_iload_n hx hb d_Sp_flawsOf_46 rfl (lv_at hl 1 rfl) ?_
  obtain ⟨g52, hF⟩ := hF
  refine rs_aald C hH hT h51 ak_24 g52 d_Sp_flawsOf_47 (fun h53 => ?_)
  refine rs_getR C hH hT h53 fk_6_5 tw_265 d_Sp_flawsOf_48 (fun h54 => ?_)
  refine lv_aload_n hx hb d_Sp_flawsOf_51 rfl (lv_at hl 0 rfl) ?_
  refine rs_getR C hH hT h_v0 fk_1_0 tw_320 d_Sp_flawsOf_52 (fun h55 => ?_)
  refine rs_getR C hH hT h55 fk_7_0 tw_35 d_Sp_flawsOf_55 (fun h56 => ?_)
  refine lv_iload_n hx hb d_Sp_flawsOf_58 rfl (lv_at hl 2 rfl) ?_
  obtain ⟨g57, hF⟩ := hF
  refine rs_iald C hH h56 g57 d_Sp_flawsOf_59 ?_
  refine lv_aload_n hx hb d_Sp_flawsOf_60 rfl (lv_at hl 0 rfl) ?_
  refine rs_getR C hH hT h_v0 fk_1_0 tw_320 d_Sp_flawsOf_61 (fun h58 => ?_)
  refine rs_getR C hH hT h58 fk_7_1 tw_37 d_Sp_flawsOf_64 (fun h59 => ?_)
  refine lv_iload_n hx hb d_Sp_flawsOf_67 rfl (lv_at hl 2 rfl) ?_
  obtain ⟨g60, hF⟩ := hF
  refine rs_iald C hH h59 g60 d_Sp_flawsOf_68 ?_
  refine rs_ci (rs_runV C hH hT hl (J_Ru_actionFor l h54 hF) rc_Ru_actionFor tw_404 tw_405 tw_406 h54 ⟨rfl, by decide, by decide⟩ rfl ⟨⟨rfl, rfl⟩, by decide, by decide, by decide⟩ (Nat.le_of_ble_eq_true rfl) rfl d_Sp_flawsOf_69) hS (fun x62 σ61 H locs hH hT hS hF => ?_)
  refine lv_if_ne hx hb d_Sp_flawsOf_72 (tgt := 79) rfl (fun hc => ?_) (fun hc => ?_)
  · replace hF := hF.1 hc
    refine lv_iconst hx hb d_Sp_flawsOf_79 ki_0 ?_
    refine lv_iadd hx hb d_Sp_flawsOf_80 ?_
    exact rs_iret C hH hT hS hF d_Sp_flawsOf_81
  · replace hF := hF.2 hc
    refine lv_iconst hx hb d_Sp_flawsOf_75 ki_4 ?_
    refine lv_goto hx hb d_Sp_flawsOf_76 (tgt := 80) rfl ?_
    refine lv_iadd hx hb d_Sp_flawsOf_80 ?_
    exact rs_iret C hH hT hS hF d_Sp_flawsOf_81
set_option maxRecDepth 20000 in
theorem JB_Sp_flawsOf_27 {p : Program} {l : Launch} {e : Env} {s : State} {m : MethodId} {args : Array Value} {below : List Frame} {meth : Method} {c : Code} {G : rs_G} {Bm : Nat} {S : rs_Shp} {Q : Int32 → rs_Mem → Prop} (C : rs_C "RouteSpeaker" prog_1_method_25_code 4 (some .int) G p s m meth c args) (v0 : Nat) (x1 : Int32) (x2 : Int32) (v3 : Nat) (y0 : Int32) (σ : rs_Mem) (H : Heap) (locs : List Loc) (ls : Array Slot) (h_v0 : rs_Ok S 1 v0) (h_v3 : rs_Ok S 3 v3) (hH : rs_H G Bm S σ H) (hT : rs_T S σ) (hS : va_S (rs_A Bm) s.heap H locs) (hl : lv_has ls 4 [(0, .ref (Bm + v0)), (1, .int x1), (2, .int x2), (3, .ref (Bm + v3))]) (hF : B_Sp_flawsOf_27 S.2.2 Q v0 x1 x2 v3 y0 σ) :
    W p l e { frames := 2, cells := 0, slots := 0, locals := 46 } s m args below meth c H locs 0 0 (MQ below (rs_Qi G Bm S Q) args s 0 0 (rs_A Bm)) (F0 m 27 ls [.int y0]) := by
  have hx := C.1
  have hb := C.2.1
  unfold B_Sp_flawsOf_27 at hF
  refine lv_aload_n hx hb d_Sp_flawsOf_27 rfl (lv_at hl 3 rfl) ?_
  refine rs_getR C hH hT h_v3 fk_3_1 tw_240 d_Sp_flawsOf_28 (fun h51 => ?_)
  refine lv_iload_n hx hb d_Sp_flawsOf_31 rfl (lv_at hl 2 rfl) ?_
  obtain ⟨g52, hF⟩ := hF
  refine rs_zald C hH h51 g52 d_Sp_flawsOf_32 ?_
  refine lv_if_eq hx hb d_Sp_flawsOf_33 (tgt := 40) rfl (fun hc => ?_) (fun hc => ?_)
  · replace hF := hF.1 hc
    refine lv_iconst hx hb d_Sp_flawsOf_40 ki_0 ?_
    exact JB_Sp_flawsOf_41 C v0 x1 x2 y0 (0 : Int32) σ _ _ _ h_v0 hH hT hS (lv_sub hl [0, 1, 2] rfl) hF
  · replace hF := hF.2 hc
    refine lv_iconst hx hb d_Sp_flawsOf_36 ki_2 ?_
    refine lv_goto hx hb d_Sp_flawsOf_37 (tgt := 41) rfl ?_
    exact JB_Sp_flawsOf_41 C v0 x1 x2 y0 (2 : Int32) σ _ _ _ h_v0 hH hT hS (lv_sub hl [0, 1, 2] rfl) hF
abbrev y_Sp_flawsOf : MethodName := ({ cls := "RouteSpeaker", name := "flawsOf", desc := "(II)I" } : Jvm.MethodName)
theorem rc_Sp_flawsOf : rs_Cal y_Sp_flawsOf prog_1_method_25_code 4 (some .int) 2 := ⟨tw_396, tw_1, by decide, by decide, by decide +kernel⟩
set_option maxRecDepth 20000 in
theorem J_Sp_flawsOf (l : Launch) {G : rs_G} {Bm : Nat} {S : rs_Shp} {v0 : Nat} {x1 : Int32} {x2 : Int32} {σ : rs_Mem} {Q : Int32 → rs_Mem → Prop} (h_v0 : rs_Ok S 1 v0) (hF : F_Sp_flawsOf S.2.2 v0 x1 x2 σ Q) :
    Met l y_Sp_flawsOf (rs_ws y_Sp_flawsOf prog_1_method_25_code 4 (some .int)) { frames := 2, cells := 0, slots := 0, locals := 46 } (rs_P G Bm S σ [.ref (Bm + v0), .int x1, .int x2]) (rs_Qi G Bm S Q) 0 0 (rs_A Bm) := by
  refine rs_met (own := "RouteSpeaker") (by decide) rfl (Nat.le_of_ble_eq_true rfl) (fun p e s m below meth c ls C hl hH hT hS => ?_)
  replace hl : lv_has ls 4 [(0, .ref (Bm + v0)), (1, .int x1), (2, .int x2)] := hl
  have hx := C.1
  have hb := C.2.1
  unfold F_Sp_flawsOf at hF
  refine lv_aload_n hx hb d_Sp_flawsOf_0 rfl (lv_at hl 0 rfl) ?_
  refine rs_getR C hH hT h_v0 fk_1_1 tw_321 d_Sp_flawsOf_1 (fun h51 => ?_)
  refine lv_iload_n hx hb d_Sp_flawsOf_4 rfl (lv_at hl 1 rfl) ?_
  obtain ⟨g52, hF⟩ := hF
  refine rs_aald C hH hT h51 ak_24 g52 d_Sp_flawsOf_5 (fun h53 => ?_)
  refine rs_getR C hH hT h53 fk_6_15 tw_283 d_Sp_flawsOf_6 (fun h54 => ?_)
  refine rs_topr (fun v55 ev55 => ?_)
  replace hF := hF v55 ev55
  have h_v55 : rs_Ok S 3 v55 := by rw [ev55]; exact h54
  refine lv_astore_n hx hb d_Sp_flawsOf_9 rfl hl (by decide) (lv' := [(3, .ref (Bm + v55)), (0, .ref (Bm + v0)), (1, .int x1), (2, .int x2)]) rfl (fun ls hl => ?_)
  refine lv_aload_n hx hb d_Sp_flawsOf_10 rfl (lv_at hl 0 rfl) ?_
  refine rs_getR C hH hT h_v55 fk_3_0 tw_238 d_Sp_flawsOf_11 (fun h56 => ?_)
  refine lv_iload_n hx hb d_Sp_flawsOf_14 rfl (lv_at hl 3 rfl) ?_
  obtain ⟨g57, hF⟩ := hF
  refine rs_aald C hH hT h56 ak_25 g57 d_Sp_flawsOf_15 (fun h58 => ?_)
  refine rs_ci (rs_runV C hH hT hl (J_Ro_isBarred l h58 hF) rc_Ro_isBarred tw_397 tw_398 tw_399 h58 ⟨rfl, by decide, by decide⟩ rfl ⟨⟨rfl, rfl⟩, by decide, by decide, by decide⟩ (Nat.le_of_ble_eq_true rfl) rfl d_Sp_flawsOf_16) hS (fun x60 σ59 H locs hH hT hS hF => ?_)
  refine lv_if_eq hx hb d_Sp_flawsOf_19 (tgt := 26) rfl (fun hc => ?_) (fun hc => ?_)
  · replace hF := hF.1 hc
    refine lv_iconst hx hb d_Sp_flawsOf_26 ki_0 ?_
    exact JB_Sp_flawsOf_27 C v0 x1 x2 v55 (0 : Int32) σ59 _ _ _ h_v0 h_v55 hH hT hS (lv_sub hl [1, 2, 3, 0] rfl) hF
  · replace hF := hF.2 hc
    refine lv_iconst hx hb d_Sp_flawsOf_22 ki_1 ?_
    refine lv_goto hx hb d_Sp_flawsOf_23 (tgt := 27) rfl ?_
    exact JB_Sp_flawsOf_27 C v0 x1 x2 v55 (1 : Int32) σ59 _ _ _ h_v0 h_v55 hH hT hS (lv_sub hl [1, 2, 3, 0] rfl) hF
/-! RouteSpeaker.routeOf(II)LRouteSpeaker$Route; -/
theorem d_Sp_routeOf_0 : decode prog_1_method_23_code 0 = .ok (.iload_n 1, 1) := by decide +kernel
theorem d_Sp_routeOf_1 : decode prog_1_method_23_code 1 = .ok (.iconst 4, 1) := by decide +kernel
theorem d_Sp_routeOf_2 : decode prog_1_method_23_code 2 = .ok (.if_icmp .ne (10), 3) := by decide +kernel
theorem d_Sp_routeOf_5 : decode prog_1_method_23_code 5 = .ok (.aload_n 0, 1) := by decide +kernel
theorem d_Sp_routeOf_6 : decode prog_1_method_23_code 6 = .ok (.getfield 25, 3) := by decide +kernel
theorem d_Sp_routeOf_9 : decode prog_1_method_23_code 9 = .ok (.goto (17), 3) := by decide +kernel
theorem d_Sp_routeOf_12 : decode prog_1_method_23_code 12 = .ok (.aload_n 0, 1) := by decide +kernel
theorem d_Sp_routeOf_13 : decode prog_1_method_23_code 13 = .ok (.getfield 18, 3) := by decide +kernel
theorem d_Sp_routeOf_16 : decode prog_1_method_23_code 16 = .ok (.iload_n 1, 1) := by decide +kernel
theorem d_Sp_routeOf_17 : decode prog_1_method_23_code 17 = .ok (.aaload, 1) := by decide +kernel
theorem d_Sp_routeOf_18 : decode prog_1_method_23_code 18 = .ok (.getfield 150, 3) := by decide +kernel
theorem d_Sp_routeOf_21 : decode prog_1_method_23_code 21 = .ok (.getfield 219, 3) := by decide +kernel
theorem d_Sp_routeOf_24 : decode prog_1_method_23_code 24 = .ok (.iload_n 2, 1) := by decide +kernel
theorem d_Sp_routeOf_25 : decode prog_1_method_23_code 25 = .ok (.aaload, 1) := by decide +kernel
theorem d_Sp_routeOf_26 : decode prog_1_method_23_code 26 = .ok (.areturn, 1) := by decide +kernel
def F_Sp_routeOf (N : Nat → Nat) (v0 : Nat) (x1 : Int32) (x2 : Int32) (σ : rs_Mem) (Q : Nat → rs_Mem → Prop) : Prop :=
  ((¬ (x1 = (4 : Int32)) → (vp_in x1 (N (rs_R σ v0 1)) ∧ (vp_in x2 (N (rs_R σ (rs_R σ (rs_R σ (rs_R σ v0 1) x1.toNatClampNeg) 15) 0)) ∧ (Q (rs_R σ (rs_R σ (rs_R σ (rs_R σ (rs_R σ v0 1) x1.toNatClampNeg) 15) 0) x2.toNatClampNeg) σ)))) ∧ (x1 = (4 : Int32) → (Q (rs_R σ v0 2) σ)))
abbrev y_Sp_routeOf : MethodName := ({ cls := "RouteSpeaker", name := "routeOf", desc := "(II)LRouteSpeaker$Route;" } : Jvm.MethodName)
theorem rc_Sp_routeOf : rs_Cal y_Sp_routeOf prog_1_method_23_code 3 (some (.object "RouteSpeaker$Route")) 2 := ⟨tw_418, tw_1, by decide, by decide, by decide +kernel⟩
set_option maxRecDepth 20000 in
theorem J_Sp_routeOf (l : Launch) {G : rs_G} {Bm : Nat} {S : rs_Shp} {v0 : Nat} {x1 : Int32} {x2 : Int32} {σ : rs_Mem} {Q : Nat → rs_Mem → Prop} (h_v0 : rs_Ok S 1 v0) (hF : F_Sp_routeOf S.2.2 v0 x1 x2 σ Q) :
    Met l y_Sp_routeOf (rs_ws y_Sp_routeOf prog_1_method_23_code 3 (some (.object "RouteSpeaker$Route"))) { frames := 0, cells := 0, slots := 0, locals := 0 } (rs_P G Bm S σ [.ref (Bm + v0), .int x1, .int x2]) (rs_Qr G Bm S 8 Q) 0 0 (rs_A Bm) := by
  refine rs_met (own := "RouteSpeaker") (by decide) rfl (Nat.le_of_ble_eq_true rfl) (fun p e s m below meth c ls C hl hH hT hS => ?_)
  replace hl : lv_has ls 3 [(0, .ref (Bm + v0)), (1, .int x1), (2, .int x2)] := hl
  have hx := C.1
  have hb := C.2.1
  unfold F_Sp_routeOf at hF
  refine lv_iload_n hx hb d_Sp_routeOf_0 rfl (lv_at hl 1 rfl) ?_
  refine lv_iconst hx hb d_Sp_routeOf_1 ki_4 ?_
  refine lv_icmp_ne hx hb d_Sp_routeOf_2 (tgt := 12) rfl (fun hc => ?_) (fun hc => ?_)
  · replace hF := hF.1 hc
    refine lv_aload_n hx hb d_Sp_routeOf_12 rfl (lv_at hl 0 rfl) ?_
    refine rs_getR C hH hT h_v0 fk_1_1 tw_321 d_Sp_routeOf_13 (fun h51 => ?_)
    refine lv_iload_n hx hb d_Sp_routeOf_16 rfl (lv_at hl 1 rfl) ?_
    obtain ⟨g52, hF⟩ := hF
    refine rs_aald C hH hT h51 ak_24 g52 d_Sp_routeOf_17 (fun h53 => ?_)
    refine rs_getR C hH hT h53 fk_6_15 tw_283 d_Sp_routeOf_18 (fun h54 => ?_)
    refine rs_getR C hH hT h54 fk_3_0 tw_238 d_Sp_routeOf_21 (fun h55 => ?_)
    refine lv_iload_n hx hb d_Sp_routeOf_24 rfl (lv_at hl 2 rfl) ?_
    obtain ⟨g56, hF⟩ := hF
    refine rs_aald C hH hT h55 ak_25 g56 d_Sp_routeOf_25 (fun h57 => ?_)
    exact rs_aret C hH hT hS h57 hF d_Sp_routeOf_26
  · replace hF := hF.2 hc
    refine lv_aload_n hx hb d_Sp_routeOf_5 rfl (lv_at hl 0 rfl) ?_
    refine rs_getR C hH hT h_v0 fk_1_2 tw_322 d_Sp_routeOf_6 (fun h51 => ?_)
    refine lv_goto hx hb d_Sp_routeOf_9 (tgt := 26) rfl ?_
    exact rs_aret C hH hT hS h51 hF d_Sp_routeOf_26
/-! RouteSpeaker.preferenceOf(II)I -/
theorem d_Sp_preferenceOf_0 : decode prog_1_method_24_code 0 = .ok (.iload_n 1, 1) := by decide +kernel
theorem d_Sp_preferenceOf_1 : decode prog_1_method_24_code 1 = .ok (.iconst 4, 1) := by decide +kernel
theorem d_Sp_preferenceOf_2 : decode prog_1_method_24_code 2 = .ok (.if_icmp .ne (7), 3) := by decide +kernel
theorem d_Sp_preferenceOf_5 : decode prog_1_method_24_code 5 = .ok (.iconst (-1), 1) := by decide +kernel
theorem d_Sp_preferenceOf_6 : decode prog_1_method_24_code 6 = .ok (.goto (33), 3) := by decide +kernel
theorem d_Sp_preferenceOf_9 : decode prog_1_method_24_code 9 = .ok (.aload_n 0, 1) := by decide +kernel
theorem d_Sp_preferenceOf_10 : decode prog_1_method_24_code 10 = .ok (.getfield 18, 3) := by decide +kernel
theorem d_Sp_preferenceOf_13 : decode prog_1_method_24_code 13 = .ok (.iload_n 1, 1) := by decide +kernel
theorem d_Sp_preferenceOf_14 : decode prog_1_method_24_code 14 = .ok (.aaload, 1) := by decide +kernel
theorem d_Sp_preferenceOf_15 : decode prog_1_method_24_code 15 = .ok (.getfield 84, 3) := by decide +kernel
theorem d_Sp_preferenceOf_18 : decode prog_1_method_24_code 18 = .ok (.aload_n 0, 1) := by decide +kernel
theorem d_Sp_preferenceOf_19 : decode prog_1_method_24_code 19 = .ok (.getfield 10, 3) := by decide +kernel
theorem d_Sp_preferenceOf_22 : decode prog_1_method_24_code 22 = .ok (.getfield 208, 3) := by decide +kernel
theorem d_Sp_preferenceOf_25 : decode prog_1_method_24_code 25 = .ok (.iload_n 2, 1) := by decide +kernel
theorem d_Sp_preferenceOf_26 : decode prog_1_method_24_code 26 = .ok (.iaload, 1) := by decide +kernel
theorem d_Sp_preferenceOf_27 : decode prog_1_method_24_code 27 = .ok (.aload_n 0, 1) := by decide +kernel
theorem d_Sp_preferenceOf_28 : decode prog_1_method_24_code 28 = .ok (.getfield 10, 3) := by decide +kernel
theorem d_Sp_preferenceOf_31 : decode prog_1_method_24_code 31 = .ok (.getfield 212, 3) := by decide +kernel
theorem d_Sp_preferenceOf_34 : decode prog_1_method_24_code 34 = .ok (.iload_n 2, 1) := by decide +kernel
theorem d_Sp_preferenceOf_35 : decode prog_1_method_24_code 35 = .ok (.iaload, 1) := by decide +kernel
theorem d_Sp_preferenceOf_36 : decode prog_1_method_24_code 36 = .ok (.invokevirtual 223, 3) := by decide +kernel
theorem d_Sp_preferenceOf_39 : decode prog_1_method_24_code 39 = .ok (.istore_n 3, 1) := by decide +kernel
theorem d_Sp_preferenceOf_40 : decode prog_1_method_24_code 40 = .ok (.iload_n 3, 1) := by decide +kernel
theorem d_Sp_preferenceOf_41 : decode prog_1_method_24_code 41 = .ok (.iconst (-1), 1) := by decide +kernel
theorem d_Sp_preferenceOf_42 : decode prog_1_method_24_code 42 = .ok (.if_icmp .ne (15), 3) := by decide +kernel
theorem d_Sp_preferenceOf_45 : decode prog_1_method_24_code 45 = .ok (.aload_n 0, 1) := by decide +kernel
theorem d_Sp_preferenceOf_46 : decode prog_1_method_24_code 46 = .ok (.iload_n 1, 1) := by decide +kernel
theorem d_Sp_preferenceOf_47 : decode prog_1_method_24_code 47 = .ok (.iload_n 2, 1) := by decide +kernel
theorem d_Sp_preferenceOf_48 : decode prog_1_method_24_code 48 = .ok (.invokevirtual 190, 3) := by decide +kernel
theorem d_Sp_preferenceOf_51 : decode prog_1_method_24_code 51 = .ok (.getfield 226, 3) := by decide +kernel
theorem d_Sp_preferenceOf_54 : decode prog_1_method_24_code 54 = .ok (.goto (4), 3) := by decide +kernel
theorem d_Sp_preferenceOf_57 : decode prog_1_method_24_code 57 = .ok (.iload_n 3, 1) := by decide +kernel
theorem d_Sp_preferenceOf_58 : decode prog_1_method_24_code 58 = .ok (.ireturn, 1) := by decide +kernel
def B_Sp_preferenceOf_39 (N : Nat → Nat) (Q : Int32 → rs_Mem → Prop) (v0 : Nat) (x1 : Int32) (x2 : Int32) (y0 : Int32) (σ : rs_Mem) : Prop :=
  ((¬ (y0 = (-1 : Int32)) → (Q y0 σ)) ∧ (y0 = (-1 : Int32) → (F_Sp_routeOf N v0 x1 x2 σ (fun v52 σ51 => (Q (rs_I σ51 v52 5) σ51)))))
def F_Sp_preferenceOf (N : Nat → Nat) (v0 : Nat) (x1 : Int32) (x2 : Int32) (σ : rs_Mem) (Q : Int32 → rs_Mem → Prop) : Prop :=
  ((¬ (x1 = (4 : Int32)) → (vp_in x1 (N (rs_R σ v0 1)) ∧ (vp_in x2 (N (rs_R σ (rs_R σ v0 0) 0)) ∧ (vp_in x2 (N (rs_R σ (rs_R σ v0 0) 1)) ∧ (F_Ru_actionFor N (rs_R σ (rs_R σ (rs_R σ v0 1) x1.toNatClampNeg) 5) (rs_I σ (rs_R σ (rs_R σ v0 0) 0) x2.toNatClampNeg) (rs_I σ (rs_R σ (rs_R σ v0 0) 1) x2.toNatClampNeg) σ (fun x62 σ61 => (B_Sp_preferenceOf_39 N Q v0 x1 x2 x62 σ61))))))) ∧ (x1 = (4 : Int32) → (B_Sp_preferenceOf_39 N Q v0 x1 x2 (-1 : Int32) σ)))
set_option maxRecDepth 20000 in
theorem JB_Sp_preferenceOf_39 {p : Program} {l : Launch} {e : Env} {s : State} {m : MethodId} {args : Array Value} {below : List Frame} {meth : Method} {c : Code} {G : rs_G} {Bm : Nat} {S : rs_Shp} {Q : Int32 → rs_Mem → Prop} (C : rs_C "RouteSpeaker" prog_1_method_24_code 4 (some .int) G p s m meth c args) (v0 : Nat) (x1 : Int32) (x2 : Int32) (y0 : Int32) (σ : rs_Mem) (H : Heap) (locs : List Loc) (ls : Array Slot) (h_v0 : rs_Ok S 1 v0) (hH : rs_H G Bm S σ H) (hT : rs_T S σ) (hS : va_S (rs_A Bm) s.heap H locs) (hl : lv_has ls 4 [(0, .ref (Bm + v0)), (1, .int x1), (2, .int x2)]) (hF : B_Sp_preferenceOf_39 S.2.2 Q v0 x1 x2 y0 σ) :
    W p l e { frames := 2, cells := 0, slots := 0, locals := 46 } s m args below meth c H locs 0 0 (MQ below (rs_Qi G Bm S Q) args s 0 0 (rs_A Bm)) (F0 m 39 ls [.int y0]) := by
  have hx := C.1
  have hb := C.2.1
  unfold B_Sp_preferenceOf_39 at hF
  refine lv_istore_n hx hb d_Sp_preferenceOf_39 rfl hl (by decide) (lv' := [(3, .int y0), (0, .ref (Bm + v0)), (1, .int x1), (2, .int x2)]) rfl (fun ls hl => ?_)
  refine lv_iload_n hx hb d_Sp_preferenceOf_40 rfl (lv_at hl 0 rfl) ?_
  refine lv_iconst hx hb d_Sp_preferenceOf_41 ki_m1 ?_
  refine lv_icmp_ne hx hb d_Sp_preferenceOf_42 (tgt := 57) rfl (fun hc => ?_) (fun hc => ?_)
  · replace hF := hF.1 hc
    refine lv_iload_n hx hb d_Sp_preferenceOf_57 rfl (lv_at hl 0 rfl) ?_
    exact rs_iret C hH hT hS hF d_Sp_preferenceOf_58
  · replace hF := hF.2 hc
    refine lv_aload_n hx hb d_Sp_preferenceOf_45 rfl (lv_at hl 1 rfl) ?_
    refine lv_iload_n hx hb d_Sp_preferenceOf_46 rfl (lv_at hl 2 rfl) ?_
    refine lv_iload_n hx hb d_Sp_preferenceOf_47 rfl (lv_at hl 3 rfl) ?_
    refine rs_cr (rs_runV C hH hT hl (J_Sp_routeOf l h_v0 hF) rc_Sp_routeOf tw_415 tw_417 ts_8 h_v0 ⟨rfl, by decide, by decide⟩ rfl ⟨⟨rfl, rfl⟩, by decide, by decide, by decide⟩ (Nat.le_of_ble_eq_true rfl) rfl d_Sp_preferenceOf_48) hS (fun v52 σ51 H locs h_v52 hH hT hS hF => ?_)
    refine rs_getI C hH h_v52 fk_8_5 tw_83 d_Sp_preferenceOf_51 ?_
    refine lv_goto hx hb d_Sp_preferenceOf_54 (tgt := 58) rfl ?_
    exact rs_iret C hH hT hS hF d_Sp_preferenceOf_58
abbrev y_Sp_preferenceOf : MethodName := ({ cls := "RouteSpeaker", name := "preferenceOf", desc := "(II)I" } : Jvm.MethodName)
theorem rc_Sp_preferenceOf : rs_Cal y_Sp_preferenceOf prog_1_method_24_code 4 (some .int) 2 := ⟨tw_414, tw_1, by decide, by decide, by decide +kernel⟩
set_option maxRecDepth 20000 in
theorem J_Sp_preferenceOf (l : Launch) {G : rs_G} {Bm : Nat} {S : rs_Shp} {v0 : Nat} {x1 : Int32} {x2 : Int32} {σ : rs_Mem} {Q : Int32 → rs_Mem → Prop} (h_v0 : rs_Ok S 1 v0) (hF : F_Sp_preferenceOf S.2.2 v0 x1 x2 σ Q) :
    Met l y_Sp_preferenceOf (rs_ws y_Sp_preferenceOf prog_1_method_24_code 4 (some .int)) { frames := 2, cells := 0, slots := 0, locals := 46 } (rs_P G Bm S σ [.ref (Bm + v0), .int x1, .int x2]) (rs_Qi G Bm S Q) 0 0 (rs_A Bm) := by
  refine rs_met (own := "RouteSpeaker") (by decide) rfl (Nat.le_of_ble_eq_true rfl) (fun p e s m below meth c ls C hl hH hT hS => ?_)
  replace hl : lv_has ls 4 [(0, .ref (Bm + v0)), (1, .int x1), (2, .int x2)] := hl
  have hx := C.1
  have hb := C.2.1
  unfold F_Sp_preferenceOf at hF
  refine lv_iload_n hx hb d_Sp_preferenceOf_0 rfl (lv_at hl 1 rfl) ?_
  refine lv_iconst hx hb d_Sp_preferenceOf_1 ki_4 ?_
  refine lv_icmp_ne hx hb d_Sp_preferenceOf_2 (tgt := 9) rfl (fun hc => ?_) (fun hc => ?_)
  · replace hF := hF.1 hc
    refine lv_aload_n hx hb d_Sp_preferenceOf_9 rfl (lv_at hl 0 rfl) ?_
    refine rs_getR C hH hT h_v0 fk_1_1 tw_321 d_Sp_preferenceOf_10 (fun h51 => ?_)
    refine lv_iload_n hx hb d_Sp_preferenceOf_13 rfl (lv_at hl 1 rfl) ?_
    obtain ⟨g52, hF⟩ := hF
    refine rs_aald C hH hT h51 ak_24 g52 d_Sp_preferenceOf_14 (fun h53 => ?_)
    refine rs_getR C hH hT h53 fk_6_5 tw_265 d_Sp_preferenceOf_15 (fun h54 => ?_)
    refine lv_aload_n hx hb d_Sp_preferenceOf_18 rfl (lv_at hl 0 rfl) ?_
    refine rs_getR C hH hT h_v0 fk_1_0 tw_320 d_Sp_preferenceOf_19 (fun h55 => ?_)
    refine rs_getR C hH hT h55 fk_7_0 tw_35 d_Sp_preferenceOf_22 (fun h56 => ?_)
    refine lv_iload_n hx hb d_Sp_preferenceOf_25 rfl (lv_at hl 2 rfl) ?_
    obtain ⟨g57, hF⟩ := hF
    refine rs_iald C hH h56 g57 d_Sp_preferenceOf_26 ?_
    refine lv_aload_n hx hb d_Sp_preferenceOf_27 rfl (lv_at hl 0 rfl) ?_
    refine rs_getR C hH hT h_v0 fk_1_0 tw_320 d_Sp_preferenceOf_28 (fun h58 => ?_)
    refine rs_getR C hH hT h58 fk_7_1 tw_37 d_Sp_preferenceOf_31 (fun h59 => ?_)
    refine lv_iload_n hx hb d_Sp_preferenceOf_34 rfl (lv_at hl 2 rfl) ?_
    obtain ⟨g60, hF⟩ := hF
    refine rs_iald C hH h59 g60 d_Sp_preferenceOf_35 ?_
    refine rs_ci (rs_runV C hH hT hl (J_Ru_actionFor l h54 hF) rc_Ru_actionFor tw_404 tw_405 tw_406 h54 ⟨rfl, by decide, by decide⟩ rfl ⟨⟨rfl, rfl⟩, by decide, by decide, by decide⟩ (Nat.le_of_ble_eq_true rfl) rfl d_Sp_preferenceOf_36) hS (fun x62 σ61 H locs hH hT hS hF => ?_)
    exact JB_Sp_preferenceOf_39 C v0 x1 x2 x62 σ61 _ _ _ h_v0 hH hT hS (lv_sub hl [0, 1, 2] rfl) hF
  · replace hF := hF.2 hc
    refine lv_iconst hx hb d_Sp_preferenceOf_5 ki_m1 ?_
    refine lv_goto hx hb d_Sp_preferenceOf_6 (tgt := 39) rfl ?_
    exact JB_Sp_preferenceOf_39 C v0 x1 x2 (-1 : Int32) σ _ _ _ h_v0 hH hT hS (lv_sub hl [0, 1, 2] rfl) hF
/-! RouteSpeaker.isInternal(I)Z -/
theorem d_Sp_isInternal_0 : decode prog_1_method_26_code 0 = .ok (.iload_n 1, 1) := by decide +kernel
theorem d_Sp_isInternal_1 : decode prog_1_method_26_code 1 = .ok (.iconst 4, 1) := by decide +kernel
theorem d_Sp_isInternal_2 : decode prog_1_method_26_code 2 = .ok (.if_icmp .eq (19), 3) := by decide +kernel
theorem d_Sp_isInternal_5 : decode prog_1_method_26_code 5 = .ok (.aload_n 0, 1) := by decide +kernel
theorem d_Sp_isInternal_6 : decode prog_1_method_26_code 6 = .ok (.getfield 18, 3) := by decide +kernel
theorem d_Sp_isInternal_9 : decode prog_1_method_26_code 9 = .ok (.iload_n 1, 1) := by decide +kernel
theorem d_Sp_isInternal_10 : decode prog_1_method_26_code 10 = .ok (.aaload, 1) := by decide +kernel
theorem d_Sp_isInternal_11 : decode prog_1_method_26_code 11 = .ok (.getfield 74, 3) := by decide +kernel
theorem d_Sp_isInternal_14 : decode prog_1_method_26_code 14 = .ok (.ifCond .eq (7), 3) := by decide +kernel
theorem d_Sp_isInternal_17 : decode prog_1_method_26_code 17 = .ok (.iconst 1, 1) := by decide +kernel
theorem d_Sp_isInternal_18 : decode prog_1_method_26_code 18 = .ok (.goto (4), 3) := by decide +kernel
theorem d_Sp_isInternal_21 : decode prog_1_method_26_code 21 = .ok (.iconst 0, 1) := by decide +kernel
theorem d_Sp_isInternal_22 : decode prog_1_method_26_code 22 = .ok (.ireturn, 1) := by decide +kernel
def F_Sp_isInternal (N : Nat → Nat) (v0 : Nat) (x1 : Int32) (σ : rs_Mem) (Q : Int32 → rs_Mem → Prop) : Prop :=
  ((x1 = (4 : Int32) → (Q (0 : Int32) σ)) ∧ (¬ (x1 = (4 : Int32)) → (vp_in x1 (N (rs_R σ v0 1)) ∧ (((rs_I σ (rs_R σ (rs_R σ v0 1) x1.toNatClampNeg) 0) = 0 → (Q (0 : Int32) σ)) ∧ (¬ ((rs_I σ (rs_R σ (rs_R σ v0 1) x1.toNatClampNeg) 0) = 0) → (Q (1 : Int32) σ))))))
abbrev y_Sp_isInternal : MethodName := ({ cls := "RouteSpeaker", name := "isInternal", desc := "(I)Z" } : Jvm.MethodName)
theorem rc_Sp_isInternal : rs_Cal y_Sp_isInternal prog_1_method_26_code 2 (some .boolean) 1 := ⟨tw_422, tw_1, by decide, by decide, by decide +kernel⟩
set_option maxRecDepth 20000 in
theorem J_Sp_isInternal (l : Launch) {G : rs_G} {Bm : Nat} {S : rs_Shp} {v0 : Nat} {x1 : Int32} {σ : rs_Mem} {Q : Int32 → rs_Mem → Prop} (h_v0 : rs_Ok S 1 v0) (hF : F_Sp_isInternal S.2.2 v0 x1 σ Q) :
    Met l y_Sp_isInternal (rs_ws y_Sp_isInternal prog_1_method_26_code 2 (some .boolean)) { frames := 0, cells := 0, slots := 0, locals := 0 } (rs_P G Bm S σ [.ref (Bm + v0), .int x1]) (rs_Qi G Bm S Q) 0 0 (rs_A Bm) := by
  refine rs_met (own := "RouteSpeaker") (by decide) rfl (Nat.le_of_ble_eq_true rfl) (fun p e s m below meth c ls C hl hH hT hS => ?_)
  replace hl : lv_has ls 2 [(0, .ref (Bm + v0)), (1, .int x1)] := hl
  have hx := C.1
  have hb := C.2.1
  unfold F_Sp_isInternal at hF
  refine lv_iload_n hx hb d_Sp_isInternal_0 rfl (lv_at hl 1 rfl) ?_
  refine lv_iconst hx hb d_Sp_isInternal_1 ki_4 ?_
  refine lv_icmp_eq hx hb d_Sp_isInternal_2 (tgt := 21) rfl (fun hc => ?_) (fun hc => ?_)
  · replace hF := hF.1 hc
    refine lv_iconst hx hb d_Sp_isInternal_21 ki_0 ?_
    exact rs_zret C hH hT hS (by decide) hF d_Sp_isInternal_22
  · replace hF := hF.2 hc
    refine lv_aload_n hx hb d_Sp_isInternal_5 rfl (lv_at hl 0 rfl) ?_
    refine rs_getR C hH hT h_v0 fk_1_1 tw_321 d_Sp_isInternal_6 (fun h51 => ?_)
    refine lv_iload_n hx hb d_Sp_isInternal_9 rfl (lv_at hl 1 rfl) ?_
    obtain ⟨g52, hF⟩ := hF
    refine rs_aald C hH hT h51 ak_24 g52 d_Sp_isInternal_10 (fun h53 => ?_)
    refine rs_getI C hH h53 fk_6_0 tw_255 d_Sp_isInternal_11 ?_
    refine lv_if_eq hx hb d_Sp_isInternal_14 (tgt := 21) rfl (fun hc => ?_) (fun hc => ?_)
    · replace hF := hF.1 hc
      refine lv_iconst hx hb d_Sp_isInternal_21 ki_0 ?_
      exact rs_zret C hH hT hS (by decide) hF d_Sp_isInternal_22
    · replace hF := hF.2 hc
      refine lv_iconst hx hb d_Sp_isInternal_17 ki_1 ?_
      refine lv_goto hx hb d_Sp_isInternal_18 (tgt := 22) rfl ?_
      exact rs_zret C hH hT hS (by decide) hF d_Sp_isInternal_22
/-! RouteSpeaker$Route.firstNetwork()I -/
theorem d_Ro_firstNetwork_0 : decode prog_8_method_7_code 0 = .ok (.aload_n 0, 1) := by decide +kernel
theorem d_Ro_firstNetwork_1 : decode prog_8_method_7_code 1 = .ok (.getfield 28, 3) := by decide +kernel
theorem d_Ro_firstNetwork_4 : decode prog_8_method_7_code 4 = .ok (.ifCond .le (12), 3) := by decide +kernel
theorem d_Ro_firstNetwork_7 : decode prog_8_method_7_code 7 = .ok (.aload_n 0, 1) := by decide +kernel
theorem d_Ro_firstNetwork_8 : decode prog_8_method_7_code 8 = .ok (.getfield 9, 3) := by decide +kernel
theorem d_Ro_firstNetwork_11 : decode prog_8_method_7_code 11 = .ok (.iconst 0, 1) := by decide +kernel
theorem d_Ro_firstNetwork_12 : decode prog_8_method_7_code 12 = .ok (.iaload, 1) := by decide +kernel
theorem d_Ro_firstNetwork_13 : decode prog_8_method_7_code 13 = .ok (.goto (4), 3) := by decide +kernel
theorem d_Ro_firstNetwork_16 : decode prog_8_method_7_code 16 = .ok (.iconst 0, 1) := by decide +kernel
theorem d_Ro_firstNetwork_17 : decode prog_8_method_7_code 17 = .ok (.ireturn, 1) := by decide +kernel
def F_Ro_firstNetwork (N : Nat → Nat) (v0 : Nat) (σ : rs_Mem) (Q : Int32 → rs_Mem → Prop) : Prop :=
  (((rs_I σ v0 1) ≤ 0 → (Q (0 : Int32) σ)) ∧ (¬ ((rs_I σ v0 1) ≤ 0) → (vp_in (0 : Int32) (N (rs_R σ v0 2)) ∧ (Q (rs_I σ (rs_R σ v0 2) (0 : Int32).toNatClampNeg) σ))))
abbrev y_Ro_firstNetwork : MethodName := ({ cls := "RouteSpeaker$Route", name := "firstNetwork", desc := "()I" } : Jvm.MethodName)
theorem rc_Ro_firstNetwork : rs_Cal y_Ro_firstNetwork prog_8_method_7_code 1 (some .int) 0 := ⟨tw_430, tw_3, by decide, by decide, by decide +kernel⟩
set_option maxRecDepth 20000 in
theorem J_Ro_firstNetwork (l : Launch) {G : rs_G} {Bm : Nat} {S : rs_Shp} {v0 : Nat} {σ : rs_Mem} {Q : Int32 → rs_Mem → Prop} (h_v0 : rs_Ok S 8 v0) (hF : F_Ro_firstNetwork S.2.2 v0 σ Q) :
    Met l y_Ro_firstNetwork (rs_ws y_Ro_firstNetwork prog_8_method_7_code 1 (some .int)) { frames := 0, cells := 0, slots := 0, locals := 0 } (rs_P G Bm S σ [.ref (Bm + v0)]) (rs_Qi G Bm S Q) 0 0 (rs_A Bm) := by
  refine rs_met (own := "RouteSpeaker$Route") (by decide) rfl (Nat.le_of_ble_eq_true rfl) (fun p e s m below meth c ls C hl hH hT hS => ?_)
  replace hl : lv_has ls 1 [(0, .ref (Bm + v0))] := hl
  have hx := C.1
  have hb := C.2.1
  unfold F_Ro_firstNetwork at hF
  refine lv_aload_n hx hb d_Ro_firstNetwork_0 rfl (lv_at hl 0 rfl) ?_
  refine rs_getI C hH h_v0 fk_8_1 tw_66 d_Ro_firstNetwork_1 ?_
  refine lv_if_le hx hb d_Ro_firstNetwork_4 (tgt := 16) rfl (fun hc => ?_) (fun hc => ?_)
  · replace hF := hF.1 hc
    refine lv_iconst hx hb d_Ro_firstNetwork_16 ki_0 ?_
    exact rs_iret C hH hT hS hF d_Ro_firstNetwork_17
  · replace hF := hF.2 hc
    refine lv_aload_n hx hb d_Ro_firstNetwork_7 rfl (lv_at hl 0 rfl) ?_
    refine rs_getR C hH hT h_v0 fk_8_2 tw_70 d_Ro_firstNetwork_8 (fun h51 => ?_)
    refine lv_iconst hx hb d_Ro_firstNetwork_11 ki_0 ?_
    obtain ⟨g52, hF⟩ := hF
    refine rs_iald C hH h51 g52 d_Ro_firstNetwork_12 ?_
    refine lv_goto hx hb d_Ro_firstNetwork_13 (tgt := 17) rfl ?_
    exact rs_iret C hH hT hS hF d_Ro_firstNetwork_17
/-! RouteSpeaker$Route.sourceOr(I)I -/
theorem d_Ro_sourceOr_0 : decode prog_8_method_8_code 0 = .ok (.aload_n 0, 1) := by decide +kernel
theorem d_Ro_sourceOr_1 : decode prog_8_method_8_code 1 = .ok (.getfield 37, 3) := by decide +kernel
theorem d_Ro_sourceOr_4 : decode prog_8_method_8_code 4 = .ok (.ifCond .eq (10), 3) := by decide +kernel
theorem d_Ro_sourceOr_7 : decode prog_8_method_8_code 7 = .ok (.aload_n 0, 1) := by decide +kernel
theorem d_Ro_sourceOr_8 : decode prog_8_method_8_code 8 = .ok (.getfield 37, 3) := by decide +kernel
theorem d_Ro_sourceOr_11 : decode prog_8_method_8_code 11 = .ok (.goto (4), 3) := by decide +kernel
theorem d_Ro_sourceOr_14 : decode prog_8_method_8_code 14 = .ok (.iload_n 1, 1) := by decide +kernel
theorem d_Ro_sourceOr_15 : decode prog_8_method_8_code 15 = .ok (.ireturn, 1) := by decide +kernel
def F_Ro_sourceOr (N : Nat → Nat) (v0 : Nat) (x1 : Int32) (σ : rs_Mem) (Q : Int32 → rs_Mem → Prop) : Prop :=
  (((rs_I σ v0 6) = 0 → (Q x1 σ)) ∧ (¬ ((rs_I σ v0 6) = 0) → (Q (rs_I σ v0 6) σ)))
abbrev y_Ro_sourceOr : MethodName := ({ cls := "RouteSpeaker$Route", name := "sourceOr", desc := "(I)I" } : Jvm.MethodName)
theorem rc_Ro_sourceOr : rs_Cal y_Ro_sourceOr prog_8_method_8_code 2 (some .int) 1 := ⟨tw_434, tw_3, by decide, by decide, by decide +kernel⟩
set_option maxRecDepth 20000 in
theorem J_Ro_sourceOr (l : Launch) {G : rs_G} {Bm : Nat} {S : rs_Shp} {v0 : Nat} {x1 : Int32} {σ : rs_Mem} {Q : Int32 → rs_Mem → Prop} (h_v0 : rs_Ok S 8 v0) (hF : F_Ro_sourceOr S.2.2 v0 x1 σ Q) :
    Met l y_Ro_sourceOr (rs_ws y_Ro_sourceOr prog_8_method_8_code 2 (some .int)) { frames := 0, cells := 0, slots := 0, locals := 0 } (rs_P G Bm S σ [.ref (Bm + v0), .int x1]) (rs_Qi G Bm S Q) 0 0 (rs_A Bm) := by
  refine rs_met (own := "RouteSpeaker$Route") (by decide) rfl (Nat.le_of_ble_eq_true rfl) (fun p e s m below meth c ls C hl hH hT hS => ?_)
  replace hl : lv_has ls 2 [(0, .ref (Bm + v0)), (1, .int x1)] := hl
  have hx := C.1
  have hb := C.2.1
  unfold F_Ro_sourceOr at hF
  refine lv_aload_n hx hb d_Ro_sourceOr_0 rfl (lv_at hl 0 rfl) ?_
  refine rs_getI C hH h_v0 fk_8_6 tw_84 d_Ro_sourceOr_1 ?_
  refine lv_if_eq hx hb d_Ro_sourceOr_4 (tgt := 14) rfl (fun hc => ?_) (fun hc => ?_)
  · replace hF := hF.1 hc
    refine lv_iload_n hx hb d_Ro_sourceOr_14 rfl (lv_at hl 1 rfl) ?_
    exact rs_iret C hH hT hS hF d_Ro_sourceOr_15
  · replace hF := hF.2 hc
    refine lv_aload_n hx hb d_Ro_sourceOr_7 rfl (lv_at hl 0 rfl) ?_
    refine rs_getI C hH h_v0 fk_8_6 tw_84 d_Ro_sourceOr_8 ?_
    refine lv_goto hx hb d_Ro_sourceOr_11 (tgt := 15) rfl ?_
    exact rs_iret C hH hT hS hF d_Ro_sourceOr_15
/-! RouteSpeaker$Choice.offer(ILRouteSpeaker$Route;IZI)V -/
theorem d_Ch_offer_0 : decode prog_2_method_3_code 0 = .ok (.aload_n 0, 1) := by decide +kernel
theorem d_Ch_offer_1 : decode prog_2_method_3_code 1 = .ok (.getfield 20, 3) := by decide +kernel
theorem d_Ch_offer_4 : decode prog_2_method_3_code 4 = .ok (.iload_n 1, 1) := by decide +kernel
theorem d_Ch_offer_5 : decode prog_2_method_3_code 5 = .ok (.iconst 1, 1) := by decide +kernel
theorem d_Ch_offer_6 : decode prog_2_method_3_code 6 = .ok (.bastore, 1) := by decide +kernel
theorem d_Ch_offer_7 : decode prog_2_method_3_code 7 = .ok (.aload_n 0, 1) := by decide +kernel
theorem d_Ch_offer_8 : decode prog_2_method_3_code 8 = .ok (.getfield 16, 3) := by decide +kernel
theorem d_Ch_offer_11 : decode prog_2_method_3_code 11 = .ok (.iload_n 1, 1) := by decide +kernel
theorem d_Ch_offer_12 : decode prog_2_method_3_code 12 = .ok (.aload_n 2, 1) := by decide +kernel
theorem d_Ch_offer_13 : decode prog_2_method_3_code 13 = .ok (.invokevirtual 24, 3) := by decide +kernel
theorem d_Ch_offer_16 : decode prog_2_method_3_code 16 = .ok (.iastore, 1) := by decide +kernel
theorem d_Ch_offer_17 : decode prog_2_method_3_code 17 = .ok (.aload_n 0, 1) := by decide +kernel
theorem d_Ch_offer_18 : decode prog_2_method_3_code 18 = .ok (.getfield 13, 3) := by decide +kernel
theorem d_Ch_offer_21 : decode prog_2_method_3_code 21 = .ok (.iconst 0, 1) := by decide +kernel
theorem d_Ch_offer_22 : decode prog_2_method_3_code 22 = .ok (.aaload, 1) := by decide +kernel
theorem d_Ch_offer_23 : decode prog_2_method_3_code 23 = .ok (.iload_n 1, 1) := by decide +kernel
theorem d_Ch_offer_24 : decode prog_2_method_3_code 24 = .ok (.iload_n 3, 1) := by decide +kernel
theorem d_Ch_offer_25 : decode prog_2_method_3_code 25 = .ok (.ineg, 1) := by decide +kernel
theorem d_Ch_offer_26 : decode prog_2_method_3_code 26 = .ok (.iastore, 1) := by decide +kernel
theorem d_Ch_offer_27 : decode prog_2_method_3_code 27 = .ok (.aload_n 0, 1) := by decide +kernel
theorem d_Ch_offer_28 : decode prog_2_method_3_code 28 = .ok (.getfield 13, 3) := by decide +kernel
theorem d_Ch_offer_31 : decode prog_2_method_3_code 31 = .ok (.iconst 1, 1) := by decide +kernel
theorem d_Ch_offer_32 : decode prog_2_method_3_code 32 = .ok (.aaload, 1) := by decide +kernel
theorem d_Ch_offer_33 : decode prog_2_method_3_code 33 = .ok (.iload_n 1, 1) := by decide +kernel
theorem d_Ch_offer_34 : decode prog_2_method_3_code 34 = .ok (.aload_n 2, 1) := by decide +kernel
theorem d_Ch_offer_35 : decode prog_2_method_3_code 35 = .ok (.getfield 30, 3) := by decide +kernel
theorem d_Ch_offer_38 : decode prog_2_method_3_code 38 = .ok (.iastore, 1) := by decide +kernel
theorem d_Ch_offer_39 : decode prog_2_method_3_code 39 = .ok (.aload_n 0, 1) := by decide +kernel
theorem d_Ch_offer_40 : decode prog_2_method_3_code 40 = .ok (.getfield 13, 3) := by decide +kernel
theorem d_Ch_offer_43 : decode prog_2_method_3_code 43 = .ok (.iconst 2, 1) := by decide +kernel
theorem d_Ch_offer_44 : decode prog_2_method_3_code 44 = .ok (.aaload, 1) := by decide +kernel
theorem d_Ch_offer_45 : decode prog_2_method_3_code 45 = .ok (.iload_n 1, 1) := by decide +kernel
theorem d_Ch_offer_46 : decode prog_2_method_3_code 46 = .ok (.aload_n 2, 1) := by decide +kernel
theorem d_Ch_offer_47 : decode prog_2_method_3_code 47 = .ok (.getfield 34, 3) := by decide +kernel
theorem d_Ch_offer_50 : decode prog_2_method_3_code 50 = .ok (.iastore, 1) := by decide +kernel
theorem d_Ch_offer_51 : decode prog_2_method_3_code 51 = .ok (.aload_n 0, 1) := by decide +kernel
theorem d_Ch_offer_52 : decode prog_2_method_3_code 52 = .ok (.getfield 13, 3) := by decide +kernel
theorem d_Ch_offer_55 : decode prog_2_method_3_code 55 = .ok (.iconst 3, 1) := by decide +kernel
theorem d_Ch_offer_56 : decode prog_2_method_3_code 56 = .ok (.aaload, 1) := by decide +kernel
theorem d_Ch_offer_57 : decode prog_2_method_3_code 57 = .ok (.iload_n 1, 1) := by decide +kernel
theorem d_Ch_offer_58 : decode prog_2_method_3_code 58 = .ok (.aload_n 2, 1) := by decide +kernel
theorem d_Ch_offer_59 : decode prog_2_method_3_code 59 = .ok (.getfield 37, 3) := by decide +kernel
theorem d_Ch_offer_62 : decode prog_2_method_3_code 62 = .ok (.iconst (-1), 1) := by decide +kernel
theorem d_Ch_offer_63 : decode prog_2_method_3_code 63 = .ok (.if_icmp .ne (7), 3) := by decide +kernel
theorem d_Ch_offer_66 : decode prog_2_method_3_code 66 = .ok (.iconst 0, 1) := by decide +kernel
theorem d_Ch_offer_67 : decode prog_2_method_3_code 67 = .ok (.goto (7), 3) := by decide +kernel
theorem d_Ch_offer_70 : decode prog_2_method_3_code 70 = .ok (.aload_n 2, 1) := by decide +kernel
theorem d_Ch_offer_71 : decode prog_2_method_3_code 71 = .ok (.getfield 37, 3) := by decide +kernel
theorem d_Ch_offer_74 : decode prog_2_method_3_code 74 = .ok (.iastore, 1) := by decide +kernel
theorem d_Ch_offer_75 : decode prog_2_method_3_code 75 = .ok (.aload_n 0, 1) := by decide +kernel
theorem d_Ch_offer_76 : decode prog_2_method_3_code 76 = .ok (.getfield 13, 3) := by decide +kernel
theorem d_Ch_offer_79 : decode prog_2_method_3_code 79 = .ok (.iconst 4, 1) := by decide +kernel
theorem d_Ch_offer_80 : decode prog_2_method_3_code 80 = .ok (.aaload, 1) := by decide +kernel
theorem d_Ch_offer_81 : decode prog_2_method_3_code 81 = .ok (.iload_n 1, 1) := by decide +kernel
theorem d_Ch_offer_82 : decode prog_2_method_3_code 82 = .ok (.iload 4, 2) := by decide +kernel
theorem d_Ch_offer_84 : decode prog_2_method_3_code 84 = .ok (.ifCond .eq (7), 3) := by decide +kernel
theorem d_Ch_offer_87 : decode prog_2_method_3_code 87 = .ok (.iconst 1, 1) := by decide +kernel
theorem d_Ch_offer_88 : decode prog_2_method_3_code 88 = .ok (.goto (4), 3) := by decide +kernel
theorem d_Ch_offer_91 : decode prog_2_method_3_code 91 = .ok (.iconst 0, 1) := by decide +kernel
theorem d_Ch_offer_92 : decode prog_2_method_3_code 92 = .ok (.iastore, 1) := by decide +kernel
theorem d_Ch_offer_93 : decode prog_2_method_3_code 93 = .ok (.aload_n 0, 1) := by decide +kernel
theorem d_Ch_offer_94 : decode prog_2_method_3_code 94 = .ok (.getfield 13, 3) := by decide +kernel
theorem d_Ch_offer_97 : decode prog_2_method_3_code 97 = .ok (.iconst 5, 1) := by decide +kernel
theorem d_Ch_offer_98 : decode prog_2_method_3_code 98 = .ok (.aaload, 1) := by decide +kernel
theorem d_Ch_offer_99 : decode prog_2_method_3_code 99 = .ok (.iload_n 1, 1) := by decide +kernel
theorem d_Ch_offer_100 : decode prog_2_method_3_code 100 = .ok (.aload_n 2, 1) := by decide +kernel
theorem d_Ch_offer_101 : decode prog_2_method_3_code 101 = .ok (.iload 5, 2) := by decide +kernel
theorem d_Ch_offer_103 : decode prog_2_method_3_code 103 = .ok (.invokevirtual 40, 3) := by decide +kernel
theorem d_Ch_offer_106 : decode prog_2_method_3_code 106 = .ok (.iastore, 1) := by decide +kernel
theorem d_Ch_offer_107 : decode prog_2_method_3_code 107 = .ok (.aload_n 0, 1) := by decide +kernel
theorem d_Ch_offer_108 : decode prog_2_method_3_code 108 = .ok (.getfield 13, 3) := by decide +kernel
theorem d_Ch_offer_111 : decode prog_2_method_3_code 111 = .ok (.bipush (6), 2) := by decide +kernel
theorem d_Ch_offer_113 : decode prog_2_method_3_code 113 = .ok (.aaload, 1) := by decide +kernel
theorem d_Ch_offer_114 : decode prog_2_method_3_code 114 = .ok (.iload_n 1, 1) := by decide +kernel
theorem d_Ch_offer_115 : decode prog_2_method_3_code 115 = .ok (.aload_n 2, 1) := by decide +kernel
theorem d_Ch_offer_116 : decode prog_2_method_3_code 116 = .ok (.getfield 44, 3) := by decide +kernel
theorem d_Ch_offer_119 : decode prog_2_method_3_code 119 = .ok (.iastore, 1) := by decide +kernel
theorem d_Ch_offer_120 : decode prog_2_method_3_code 120 = .ok (.return_, 1) := by decide +kernel
def B_Ch_offer_92 (N : Nat → Nat) (Q : rs_Mem → Prop) (v0 : Nat) (x1 : Int32) (v2 : Nat) (x5 : Int32) (w0 : Nat) (y1 : Int32) (y2 : Int32) (σ : rs_Mem) : Prop :=
  (vp_in y1 (N w0) ∧ ∀ σ52 : rs_Mem, σ52 = rs_sI σ w0 y1.toNatClampNeg y2 → (vp_in (5 : Int32) (N (rs_R σ52 v0 0)) ∧ (F_Ro_sourceOr N v2 x5 σ52 (fun x57 σ56 => (vp_in x1 (N (rs_R σ52 (rs_R σ52 v0 0) (5 : Int32).toNatClampNeg)) ∧ ∀ σ59 : rs_Mem, σ59 = rs_sI σ56 (rs_R σ52 (rs_R σ52 v0 0) (5 : Int32).toNatClampNeg) x1.toNatClampNeg x57 → (vp_in (6 : Int32) (N (rs_R σ59 v0 0)) ∧ (vp_in x1 (N (rs_R σ59 (rs_R σ59 v0 0) (6 : Int32).toNatClampNeg)) ∧ ∀ σ64 : rs_Mem, σ64 = rs_sI σ59 (rs_R σ59 (rs_R σ59 v0 0) (6 : Int32).toNatClampNeg) x1.toNatClampNeg (rs_I σ59 v2 7) → (Q σ64))))))))
def B_Ch_offer_74 (N : Nat → Nat) (Q : rs_Mem → Prop) (v0 : Nat) (x1 : Int32) (v2 : Nat) (x4 : Int32) (x5 : Int32) (w0 : Nat) (y1 : Int32) (y2 : Int32) (σ : rs_Mem) : Prop :=
  (vp_in y1 (N w0) ∧ ∀ σ52 : rs_Mem, σ52 = rs_sI σ w0 y1.toNatClampNeg y2 → (vp_in (4 : Int32) (N (rs_R σ52 v0 0)) ∧ ((x4 = 0 → (B_Ch_offer_92 N Q v0 x1 v2 x5 (rs_R σ52 (rs_R σ52 v0 0) (4 : Int32).toNatClampNeg) x1 (0 : Int32) σ52)) ∧ (¬ (x4 = 0) → (B_Ch_offer_92 N Q v0 x1 v2 x5 (rs_R σ52 (rs_R σ52 v0 0) (4 : Int32).toNatClampNeg) x1 (1 : Int32) σ52)))))
def F_Ch_offer (N : Nat → Nat) (v0 : Nat) (x1 : Int32) (v2 : Nat) (x3 : Int32) (x4 : Int32) (x5 : Int32) (σ : rs_Mem) (Q : rs_Mem → Prop) : Prop :=
  (vp_in x1 (N (rs_R σ v0 2)) ∧ ∀ σ53 : rs_Mem, σ53 = rs_sI σ (rs_R σ v0 2) x1.toNatClampNeg (1 : Int32) → (F_Ro_firstNetwork N v2 σ53 (fun x56 σ55 => (vp_in x1 (N (rs_R σ53 v0 1)) ∧ ∀ σ58 : rs_Mem, σ58 = rs_sI σ55 (rs_R σ53 v0 1) x1.toNatClampNeg x56 → (vp_in (0 : Int32) (N (rs_R σ58 v0 0)) ∧ (vp_in x1 (N (rs_R σ58 (rs_R σ58 v0 0) (0 : Int32).toNatClampNeg)) ∧ ∀ σ63 : rs_Mem, σ63 = rs_sI σ58 (rs_R σ58 (rs_R σ58 v0 0) (0 : Int32).toNatClampNeg) x1.toNatClampNeg (-x3) → (vp_in (1 : Int32) (N (rs_R σ63 v0 0)) ∧ (vp_in x1 (N (rs_R σ63 (rs_R σ63 v0 0) (1 : Int32).toNatClampNeg)) ∧ ∀ σ68 : rs_Mem, σ68 = rs_sI σ63 (rs_R σ63 (rs_R σ63 v0 0) (1 : Int32).toNatClampNeg) x1.toNatClampNeg (rs_I σ63 v2 1) → (vp_in (2 : Int32) (N (rs_R σ68 v0 0)) ∧ (vp_in x1 (N (rs_R σ68 (rs_R σ68 v0 0) (2 : Int32).toNatClampNeg)) ∧ ∀ σ73 : rs_Mem, σ73 = rs_sI σ68 (rs_R σ68 (rs_R σ68 v0 0) (2 : Int32).toNatClampNeg) x1.toNatClampNeg (rs_I σ68 v2 0) → (vp_in (3 : Int32) (N (rs_R σ73 v0 0)) ∧ ((¬ ((rs_I σ73 v2 4) = (-1 : Int32)) → (B_Ch_offer_74 N Q v0 x1 v2 x4 x5 (rs_R σ73 (rs_R σ73 v0 0) (3 : Int32).toNatClampNeg) x1 (rs_I σ73 v2 4) σ73)) ∧ ((rs_I σ73 v2 4) = (-1 : Int32) → (B_Ch_offer_74 N Q v0 x1 v2 x4 x5 (rs_R σ73 (rs_R σ73 v0 0) (3 : Int32).toNatClampNeg) x1 (0 : Int32) σ73))))))))))))))
set_option maxRecDepth 20000 in
theorem JB_Ch_offer_92 {p : Program} {l : Launch} {e : Env} {s : State} {m : MethodId} {args : Array Value} {below : List Frame} {meth : Method} {c : Code} {G : rs_G} {Bm : Nat} {S : rs_Shp} {Q : rs_Mem → Prop} (C : rs_C "RouteSpeaker$Choice" prog_2_method_3_code 6 none G p s m meth c args) (v0 : Nat) (x1 : Int32) (v2 : Nat) (x5 : Int32) (w0 : Nat) (y1 : Int32) (y2 : Int32) (σ : rs_Mem) (H : Heap) (locs : List Loc) (ls : Array Slot) (h_v0 : rs_Ok S 2 v0) (h_v2 : rs_Ok S 8 v2) (h_w0 : rs_Ok S 20 w0) (hH : rs_H G Bm S σ H) (hT : rs_T S σ) (hS : va_S (rs_A Bm) s.heap H locs) (hl : lv_has ls 6 [(0, .ref (Bm + v0)), (1, .int x1), (2, .ref (Bm + v2)), (5, .int x5)]) (hF : B_Ch_offer_92 S.2.2 Q v0 x1 v2 x5 w0 y1 y2 σ) :
    W p l e { frames := 1, cells := 0, slots := 0, locals := 21 } s m args below meth c H locs 0 0 (MQ below (rs_Qv G Bm S Q) args s 0 0 (rs_A Bm)) (F0 m 92 ls [.int y2, .int y1, .ref (Bm + w0)]) := by
  have hx := C.1
  have hb := C.2.1
  unfold B_Ch_offer_92 at hF
  obtain ⟨g51, hF⟩ := hF
  refine rs_iast C hH hT hS h_w0 g51 d_Ch_offer_92 (fun σ52 H locs eσ52 hH hT hS => ?_)
  replace hF := hF σ52 eσ52
  refine lv_aload_n hx hb d_Ch_offer_93 rfl (lv_at hl 0 rfl) ?_
  refine rs_getR C hH hT h_v0 fk_2_0 tw_156 d_Ch_offer_94 (fun h53 => ?_)
  refine lv_iconst hx hb d_Ch_offer_97 ki_5 ?_
  obtain ⟨g54, hF⟩ := hF
  refine rs_aald C hH hT h53 ak_26 g54 d_Ch_offer_98 (fun h55 => ?_)
  refine lv_iload_n hx hb d_Ch_offer_99 rfl (lv_at hl 1 rfl) ?_
  refine lv_aload_n hx hb d_Ch_offer_100 rfl (lv_at hl 2 rfl) ?_
  refine lv_iload hx hb d_Ch_offer_101 (lv_at hl 3 rfl) ?_
  refine rs_ci (rs_runV C hH hT hl (J_Ro_sourceOr l h_v2 hF) rc_Ro_sourceOr tw_431 tw_432 tw_433 h_v2 ⟨rfl, by decide, by decide⟩ rfl ⟨⟨rfl, rfl⟩, by decide, by decide, by decide⟩ (Nat.le_of_ble_eq_true rfl) rfl d_Ch_offer_103) hS (fun x57 σ56 H locs hH hT hS hF => ?_)
  obtain ⟨g58, hF⟩ := hF
  refine rs_iast C hH hT hS h55 g58 d_Ch_offer_106 (fun σ59 H locs eσ59 hH hT hS => ?_)
  replace hF := hF σ59 eσ59
  refine lv_aload_n hx hb d_Ch_offer_107 rfl (lv_at hl 0 rfl) ?_
  refine rs_getR C hH hT h_v0 fk_2_0 tw_156 d_Ch_offer_108 (fun h60 => ?_)
  refine lv_bipush hx hb d_Ch_offer_111 kb_6 ?_
  obtain ⟨g61, hF⟩ := hF
  refine rs_aald C hH hT h60 ak_26 g61 d_Ch_offer_113 (fun h62 => ?_)
  refine lv_iload_n hx hb d_Ch_offer_114 rfl (lv_at hl 1 rfl) ?_
  refine lv_aload_n hx hb d_Ch_offer_115 rfl (lv_at hl 2 rfl) ?_
  refine rs_getI C hH h_v2 fk_8_7 tw_87 d_Ch_offer_116 ?_
  obtain ⟨g63, hF⟩ := hF
  refine rs_iast C hH hT hS h62 g63 d_Ch_offer_119 (fun σ64 H locs eσ64 hH hT hS => ?_)
  replace hF := hF σ64 eσ64
  exact rs_vret C hH hT hS hF d_Ch_offer_120
set_option maxRecDepth 20000 in
theorem JB_Ch_offer_74 {p : Program} {l : Launch} {e : Env} {s : State} {m : MethodId} {args : Array Value} {below : List Frame} {meth : Method} {c : Code} {G : rs_G} {Bm : Nat} {S : rs_Shp} {Q : rs_Mem → Prop} (C : rs_C "RouteSpeaker$Choice" prog_2_method_3_code 6 none G p s m meth c args) (v0 : Nat) (x1 : Int32) (v2 : Nat) (x4 : Int32) (x5 : Int32) (w0 : Nat) (y1 : Int32) (y2 : Int32) (σ : rs_Mem) (H : Heap) (locs : List Loc) (ls : Array Slot) (h_v0 : rs_Ok S 2 v0) (h_v2 : rs_Ok S 8 v2) (h_w0 : rs_Ok S 20 w0) (hH : rs_H G Bm S σ H) (hT : rs_T S σ) (hS : va_S (rs_A Bm) s.heap H locs) (hl : lv_has ls 6 [(0, .ref (Bm + v0)), (1, .int x1), (2, .ref (Bm + v2)), (4, .int x4), (5, .int x5)]) (hF : B_Ch_offer_74 S.2.2 Q v0 x1 v2 x4 x5 w0 y1 y2 σ) :
    W p l e { frames := 1, cells := 0, slots := 0, locals := 21 } s m args below meth c H locs 0 0 (MQ below (rs_Qv G Bm S Q) args s 0 0 (rs_A Bm)) (F0 m 74 ls [.int y2, .int y1, .ref (Bm + w0)]) := by
  have hx := C.1
  have hb := C.2.1
  unfold B_Ch_offer_74 at hF
  obtain ⟨g51, hF⟩ := hF
  refine rs_iast C hH hT hS h_w0 g51 d_Ch_offer_74 (fun σ52 H locs eσ52 hH hT hS => ?_)
  replace hF := hF σ52 eσ52
  refine lv_aload_n hx hb d_Ch_offer_75 rfl (lv_at hl 0 rfl) ?_
  refine rs_getR C hH hT h_v0 fk_2_0 tw_156 d_Ch_offer_76 (fun h53 => ?_)
  refine lv_iconst hx hb d_Ch_offer_79 ki_4 ?_
  obtain ⟨g54, hF⟩ := hF
  refine rs_aald C hH hT h53 ak_26 g54 d_Ch_offer_80 (fun h55 => ?_)
  refine lv_iload_n hx hb d_Ch_offer_81 rfl (lv_at hl 1 rfl) ?_
  refine lv_iload hx hb d_Ch_offer_82 (lv_at hl 3 rfl) ?_
  refine lv_if_eq hx hb d_Ch_offer_84 (tgt := 91) rfl (fun hc => ?_) (fun hc => ?_)
  · replace hF := hF.1 hc
    refine lv_iconst hx hb d_Ch_offer_91 ki_0 ?_
    exact JB_Ch_offer_92 C v0 x1 v2 x5 (rs_R σ52 (rs_R σ52 v0 0) (4 : Int32).toNatClampNeg) x1 (0 : Int32) σ52 _ _ _ h_v0 h_v2 h55 hH hT hS (lv_sub hl [0, 1, 2, 4] rfl) hF
  · replace hF := hF.2 hc
    refine lv_iconst hx hb d_Ch_offer_87 ki_1 ?_
    refine lv_goto hx hb d_Ch_offer_88 (tgt := 92) rfl ?_
    exact JB_Ch_offer_92 C v0 x1 v2 x5 (rs_R σ52 (rs_R σ52 v0 0) (4 : Int32).toNatClampNeg) x1 (1 : Int32) σ52 _ _ _ h_v0 h_v2 h55 hH hT hS (lv_sub hl [0, 1, 2, 4] rfl) hF
abbrev y_Ch_offer : MethodName := ({ cls := "RouteSpeaker$Choice", name := "offer", desc := "(ILRouteSpeaker$Route;IZI)V" } : Jvm.MethodName)
theorem rc_Ch_offer : rs_Cal y_Ch_offer prog_2_method_3_code 6 none 5 := ⟨tw_426, tw_5, by decide, by decide, by decide +kernel⟩
set_option maxRecDepth 20000 in
theorem J_Ch_offer (l : Launch) {G : rs_G} {Bm : Nat} {S : rs_Shp} {v0 : Nat} {x1 : Int32} {v2 : Nat} {x3 : Int32} {x4 : Int32} {x5 : Int32} {σ : rs_Mem} {Q : rs_Mem → Prop} (h_v0 : rs_Ok S 2 v0) (h_v2 : rs_Ok S 8 v2) (hF : F_Ch_offer S.2.2 v0 x1 v2 x3 x4 x5 σ Q) :
    Met l y_Ch_offer (rs_ws y_Ch_offer prog_2_method_3_code 6 none) { frames := 1, cells := 0, slots := 0, locals := 21 } (rs_P G Bm S σ [.ref (Bm + v0), .int x1, .ref (Bm + v2), .int x3, .int x4, .int x5]) (rs_Qv G Bm S Q) 0 0 (rs_A Bm) := by
  refine rs_met (own := "RouteSpeaker$Choice") (by decide) rfl (Nat.le_of_ble_eq_true rfl) (fun p e s m below meth c ls C hl hH hT hS => ?_)
  replace hl : lv_has ls 6 [(0, .ref (Bm + v0)), (1, .int x1), (2, .ref (Bm + v2)), (3, .int x3), (4, .int x4), (5, .int x5)] := hl
  have hx := C.1
  have hb := C.2.1
  unfold F_Ch_offer at hF
  refine lv_aload_n hx hb d_Ch_offer_0 rfl (lv_at hl 0 rfl) ?_
  refine rs_getR C hH hT h_v0 fk_2_2 tw_158 d_Ch_offer_1 (fun h51 => ?_)
  refine lv_iload_n hx hb d_Ch_offer_4 rfl (lv_at hl 1 rfl) ?_
  refine lv_iconst hx hb d_Ch_offer_5 ki_1 ?_
  obtain ⟨g52, hF⟩ := hF
  refine rs_zast C hH hT hS (by decide) h51 g52 d_Ch_offer_6 (fun σ53 H locs eσ53 hH hT hS => ?_)
  replace hF := hF σ53 eσ53
  refine lv_aload_n hx hb d_Ch_offer_7 rfl (lv_at hl 0 rfl) ?_
  refine rs_getR C hH hT h_v0 fk_2_1 tw_157 d_Ch_offer_8 (fun h54 => ?_)
  refine lv_iload_n hx hb d_Ch_offer_11 rfl (lv_at hl 1 rfl) ?_
  refine lv_aload_n hx hb d_Ch_offer_12 rfl (lv_at hl 2 rfl) ?_
  refine rs_ci (rs_runV C hH hT hl (J_Ro_firstNetwork l h_v2 hF) rc_Ro_firstNetwork tw_427 tw_428 tw_429 h_v2 ⟨rfl, by decide, by decide⟩ rfl ⟨⟨rfl, rfl⟩, by decide, by decide, by decide⟩ (Nat.le_of_ble_eq_true rfl) rfl d_Ch_offer_13) hS (fun x56 σ55 H locs hH hT hS hF => ?_)
  obtain ⟨g57, hF⟩ := hF
  refine rs_iast C hH hT hS h54 g57 d_Ch_offer_16 (fun σ58 H locs eσ58 hH hT hS => ?_)
  replace hF := hF σ58 eσ58
  refine lv_aload_n hx hb d_Ch_offer_17 rfl (lv_at hl 0 rfl) ?_
  refine rs_getR C hH hT h_v0 fk_2_0 tw_156 d_Ch_offer_18 (fun h59 => ?_)
  refine lv_iconst hx hb d_Ch_offer_21 ki_0 ?_
  obtain ⟨g60, hF⟩ := hF
  refine rs_aald C hH hT h59 ak_26 g60 d_Ch_offer_22 (fun h61 => ?_)
  refine lv_iload_n hx hb d_Ch_offer_23 rfl (lv_at hl 1 rfl) ?_
  refine lv_iload_n hx hb d_Ch_offer_24 rfl (lv_at hl 3 rfl) ?_
  refine lv_ineg hx hb d_Ch_offer_25 ?_
  obtain ⟨g62, hF⟩ := hF
  refine rs_iast C hH hT hS h61 g62 d_Ch_offer_26 (fun σ63 H locs eσ63 hH hT hS => ?_)
  replace hF := hF σ63 eσ63
  refine lv_aload_n hx hb d_Ch_offer_27 rfl (lv_at hl 0 rfl) ?_
  refine rs_getR C hH hT h_v0 fk_2_0 tw_156 d_Ch_offer_28 (fun h64 => ?_)
  refine lv_iconst hx hb d_Ch_offer_31 ki_1 ?_
  obtain ⟨g65, hF⟩ := hF
  refine rs_aald C hH hT h64 ak_26 g65 d_Ch_offer_32 (fun h66 => ?_)
  refine lv_iload_n hx hb d_Ch_offer_33 rfl (lv_at hl 1 rfl) ?_
  refine lv_aload_n hx hb d_Ch_offer_34 rfl (lv_at hl 2 rfl) ?_
  refine rs_getI C hH h_v2 fk_8_1 tw_68 d_Ch_offer_35 ?_
  obtain ⟨g67, hF⟩ := hF
  refine rs_iast C hH hT hS h66 g67 d_Ch_offer_38 (fun σ68 H locs eσ68 hH hT hS => ?_)
  replace hF := hF σ68 eσ68
  refine lv_aload_n hx hb d_Ch_offer_39 rfl (lv_at hl 0 rfl) ?_
  refine rs_getR C hH hT h_v0 fk_2_0 tw_156 d_Ch_offer_40 (fun h69 => ?_)
  refine lv_iconst hx hb d_Ch_offer_43 ki_2 ?_
  obtain ⟨g70, hF⟩ := hF
  refine rs_aald C hH hT h69 ak_26 g70 d_Ch_offer_44 (fun h71 => ?_)
  refine lv_iload_n hx hb d_Ch_offer_45 rfl (lv_at hl 1 rfl) ?_
  refine lv_aload_n hx hb d_Ch_offer_46 rfl (lv_at hl 2 rfl) ?_
  refine rs_getI C hH h_v2 fk_8_0 tw_64 d_Ch_offer_47 ?_
  obtain ⟨g72, hF⟩ := hF
  refine rs_iast C hH hT hS h71 g72 d_Ch_offer_50 (fun σ73 H locs eσ73 hH hT hS => ?_)
  replace hF := hF σ73 eσ73
  refine lv_aload_n hx hb d_Ch_offer_51 rfl (lv_at hl 0 rfl) ?_
  refine rs_getR C hH hT h_v0 fk_2_0 tw_156 d_Ch_offer_52 (fun h74 => ?_)
  refine lv_iconst hx hb d_Ch_offer_55 ki_3 ?_
  obtain ⟨g75, hF⟩ := hF
  refine rs_aald C hH hT h74 ak_26 g75 d_Ch_offer_56 (fun h76 => ?_)
  refine lv_iload_n hx hb d_Ch_offer_57 rfl (lv_at hl 1 rfl) ?_
  refine lv_aload_n hx hb d_Ch_offer_58 rfl (lv_at hl 2 rfl) ?_
  refine rs_getI C hH h_v2 fk_8_4 tw_78 d_Ch_offer_59 ?_
  refine lv_iconst hx hb d_Ch_offer_62 ki_m1 ?_
  refine lv_icmp_ne hx hb d_Ch_offer_63 (tgt := 70) rfl (fun hc => ?_) (fun hc => ?_)
  · replace hF := hF.1 hc
    refine lv_aload_n hx hb d_Ch_offer_70 rfl (lv_at hl 2 rfl) ?_
    refine rs_getI C hH h_v2 fk_8_4 tw_78 d_Ch_offer_71 ?_
    exact JB_Ch_offer_74 C v0 x1 v2 x4 x5 (rs_R σ73 (rs_R σ73 v0 0) (3 : Int32).toNatClampNeg) x1 (rs_I σ73 v2 4) σ73 _ _ _ h_v0 h_v2 h76 hH hT hS (lv_sub hl [0, 1, 2, 4, 5] rfl) hF
  · replace hF := hF.2 hc
    refine lv_iconst hx hb d_Ch_offer_66 ki_0 ?_
    refine lv_goto hx hb d_Ch_offer_67 (tgt := 74) rfl ?_
    exact JB_Ch_offer_74 C v0 x1 v2 x4 x5 (rs_R σ73 (rs_R σ73 v0 0) (3 : Int32).toNatClampNeg) x1 (0 : Int32) σ73 _ _ _ h_v0 h_v2 h76 hH hT hS (lv_sub hl [0, 1, 2, 4, 5] rfl) hF
/-! RouteSpeaker$Choice.isBeaten(II)Z -/
theorem d_Ch_isBeaten_0 : decode prog_2_method_6_code 0 = .ok (.iconst 0, 1) := by decide +kernel
theorem d_Ch_isBeaten_1 : decode prog_2_method_6_code 1 = .ok (.istore_n 3, 1) := by decide +kernel
theorem d_Ch_isBeaten_2 : decode prog_2_method_6_code 2 = .ok (.iload_n 3, 1) := by decide +kernel
theorem d_Ch_isBeaten_3 : decode prog_2_method_6_code 3 = .ok (.iconst 5, 1) := by decide +kernel
theorem d_Ch_isBeaten_4 : decode prog_2_method_6_code 4 = .ok (.if_icmp .ge (59), 3) := by decide +kernel
theorem d_Ch_isBeaten_7 : decode prog_2_method_6_code 7 = .ok (.aload_n 0, 1) := by decide +kernel
theorem d_Ch_isBeaten_8 : decode prog_2_method_6_code 8 = .ok (.getfield 20, 3) := by decide +kernel
theorem d_Ch_isBeaten_11 : decode prog_2_method_6_code 11 = .ok (.iload_n 3, 1) := by decide +kernel
theorem d_Ch_isBeaten_12 : decode prog_2_method_6_code 12 = .ok (.baload, 1) := by decide +kernel
theorem d_Ch_isBeaten_13 : decode prog_2_method_6_code 13 = .ok (.ifCond .eq (44), 3) := by decide +kernel
theorem d_Ch_isBeaten_16 : decode prog_2_method_6_code 16 = .ok (.aload_n 0, 1) := by decide +kernel
theorem d_Ch_isBeaten_17 : decode prog_2_method_6_code 17 = .ok (.getfield 13, 3) := by decide +kernel
theorem d_Ch_isBeaten_20 : decode prog_2_method_6_code 20 = .ok (.iload_n 1, 1) := by decide +kernel
theorem d_Ch_isBeaten_21 : decode prog_2_method_6_code 21 = .ok (.aaload, 1) := by decide +kernel
theorem d_Ch_isBeaten_22 : decode prog_2_method_6_code 22 = .ok (.iload_n 3, 1) := by decide +kernel
theorem d_Ch_isBeaten_23 : decode prog_2_method_6_code 23 = .ok (.iaload, 1) := by decide +kernel
theorem d_Ch_isBeaten_24 : decode prog_2_method_6_code 24 = .ok (.aload_n 0, 1) := by decide +kernel
theorem d_Ch_isBeaten_25 : decode prog_2_method_6_code 25 = .ok (.getfield 13, 3) := by decide +kernel
theorem d_Ch_isBeaten_28 : decode prog_2_method_6_code 28 = .ok (.iload_n 1, 1) := by decide +kernel
theorem d_Ch_isBeaten_29 : decode prog_2_method_6_code 29 = .ok (.aaload, 1) := by decide +kernel
theorem d_Ch_isBeaten_30 : decode prog_2_method_6_code 30 = .ok (.iload_n 2, 1) := by decide +kernel
theorem d_Ch_isBeaten_31 : decode prog_2_method_6_code 31 = .ok (.iaload, 1) := by decide +kernel
theorem d_Ch_isBeaten_32 : decode prog_2_method_6_code 32 = .ok (.if_icmp .ge (25), 3) := by decide +kernel
theorem d_Ch_isBeaten_35 : decode prog_2_method_6_code 35 = .ok (.iload_n 1, 1) := by decide +kernel
theorem d_Ch_isBeaten_36 : decode prog_2_method_6_code 36 = .ok (.iconst 3, 1) := by decide +kernel
theorem d_Ch_isBeaten_37 : decode prog_2_method_6_code 37 = .ok (.if_icmp .ne (18), 3) := by decide +kernel
theorem d_Ch_isBeaten_40 : decode prog_2_method_6_code 40 = .ok (.aload_n 0, 1) := by decide +kernel
theorem d_Ch_isBeaten_41 : decode prog_2_method_6_code 41 = .ok (.getfield 16, 3) := by decide +kernel
theorem d_Ch_isBeaten_44 : decode prog_2_method_6_code 44 = .ok (.iload_n 3, 1) := by decide +kernel
theorem d_Ch_isBeaten_45 : decode prog_2_method_6_code 45 = .ok (.iaload, 1) := by decide +kernel
theorem d_Ch_isBeaten_46 : decode prog_2_method_6_code 46 = .ok (.aload_n 0, 1) := by decide +kernel
theorem d_Ch_isBeaten_47 : decode prog_2_method_6_code 47 = .ok (.getfield 16, 3) := by decide +kernel
theorem d_Ch_isBeaten_50 : decode prog_2_method_6_code 50 = .ok (.iload_n 2, 1) := by decide +kernel
theorem d_Ch_isBeaten_51 : decode prog_2_method_6_code 51 = .ok (.iaload, 1) := by decide +kernel
theorem d_Ch_isBeaten_52 : decode prog_2_method_6_code 52 = .ok (.if_icmp .ne (5), 3) := by decide +kernel
theorem d_Ch_isBeaten_55 : decode prog_2_method_6_code 55 = .ok (.iconst 1, 1) := by decide +kernel
theorem d_Ch_isBeaten_56 : decode prog_2_method_6_code 56 = .ok (.ireturn, 1) := by decide +kernel
theorem d_Ch_isBeaten_57 : decode prog_2_method_6_code 57 = .ok (.iinc 3 (1), 3) := by decide +kernel
theorem d_Ch_isBeaten_60 : decode prog_2_method_6_code 60 = .ok (.goto (-58), 3) := by decide +kernel
theorem d_Ch_isBeaten_63 : decode prog_2_method_6_code 63 = .ok (.iconst 0, 1) := by decide +kernel
theorem d_Ch_isBeaten_64 : decode prog_2_method_6_code 64 = .ok (.ireturn, 1) := by decide +kernel
def G_Ch_isBeaten_2 (N : Nat → Nat) (Q : Int32 → rs_Mem → Prop) (K2 : Nat → Int32 → Int32 → Int32 → rs_Mem → Prop) (v0 : Nat) (x1 : Int32) (x2 : Int32) (x3 : Int32) (σ : rs_Mem) : Prop :=
  (((5 : Int32) ≤ x3 → (Q (0 : Int32) σ)) ∧ (¬ ((5 : Int32) ≤ x3) → (vp_in x3 (N (rs_R σ v0 2)) ∧ (((rs_I σ (rs_R σ v0 2) x3.toNatClampNeg) = 0 → (∀ x53 : Int32, x53 = x3 + (1 : Int32) → (K2 v0 x1 x2 x53 σ))) ∧ (¬ ((rs_I σ (rs_R σ v0 2) x3.toNatClampNeg) = 0) → (vp_in x1 (N (rs_R σ v0 0)) ∧ (vp_in x3 (N (rs_R σ (rs_R σ v0 0) x1.toNatClampNeg)) ∧ (vp_in x1 (N (rs_R σ v0 0)) ∧ (vp_in x2 (N (rs_R σ (rs_R σ v0 0) x1.toNatClampNeg)) ∧ (((rs_I σ (rs_R σ (rs_R σ v0 0) x1.toNatClampNeg) x2.toNatClampNeg) ≤ (rs_I σ (rs_R σ (rs_R σ v0 0) x1.toNatClampNeg) x3.toNatClampNeg) → (∀ x61 : Int32, x61 = x3 + (1 : Int32) → (K2 v0 x1 x2 x61 σ))) ∧ (¬ ((rs_I σ (rs_R σ (rs_R σ v0 0) x1.toNatClampNeg) x2.toNatClampNeg) ≤ (rs_I σ (rs_R σ (rs_R σ v0 0) x1.toNatClampNeg) x3.toNatClampNeg)) → ((¬ (x1 = (3 : Int32)) → (Q (1 : Int32) σ)) ∧ (x1 = (3 : Int32) → (vp_in x3 (N (rs_R σ v0 1)) ∧ (vp_in x2 (N (rs_R σ v0 1)) ∧ ((¬ ((rs_I σ (rs_R σ v0 1) x3.toNatClampNeg) = (rs_I σ (rs_R σ v0 1) x2.toNatClampNeg)) → (∀ x65 : Int32, x65 = x3 + (1 : Int32) → (K2 v0 x1 x2 x65 σ))) ∧ ((rs_I σ (rs_R σ v0 1) x3.toNatClampNeg) = (rs_I σ (rs_R σ v0 1) x2.toNatClampNeg) → (Q (1 : Int32) σ))))))))))))))))))
noncomputable def L_Ch_isBeaten_2 (N : Nat → Nat) (Q : Int32 → rs_Mem → Prop) (n : Nat) : Nat → Int32 → Int32 → Int32 → rs_Mem → Prop := Nat.rec (motive := fun _ => Nat → Int32 → Int32 → Int32 → rs_Mem → Prop) (fun _ _ _ _ _ => False) (fun _ K => G_Ch_isBeaten_2 N Q K) n
def F_Ch_isBeaten (N : Nat → Nat) (v0 : Nat) (x1 : Int32) (x2 : Int32) (σ : rs_Mem) (Q : Int32 → rs_Mem → Prop) : Prop :=
  (∃ n : Nat, L_Ch_isBeaten_2 N Q n v0 x1 x2 (0 : Int32) σ)
set_option maxRecDepth 20000 in
theorem JL_Ch_isBeaten_2 {p : Program} {l : Launch} {e : Env} {s : State} {m : MethodId} {args : Array Value} {below : List Frame} {meth : Method} {c : Code} {G : rs_G} {Bm : Nat} {S : rs_Shp} {Q : Int32 → rs_Mem → Prop} (C : rs_C "RouteSpeaker$Choice" prog_2_method_6_code 4 (some .boolean) G p s m meth c args) : ∀ n : Nat, ∀ (v0 : Nat) (x1 : Int32) (x2 : Int32) (x3 : Int32) (σ : rs_Mem) (H : Heap) (locs : List Loc) (ls : Array Slot), rs_Ok S 2 v0 → rs_H G Bm S σ H → rs_T S σ → va_S (rs_A Bm) s.heap H locs → lv_has ls 4 [(0, .ref (Bm + v0)), (1, .int x1), (2, .int x2), (3, .int x3)] → (L_Ch_isBeaten_2 S.2.2 Q n) v0 x1 x2 x3 σ → W p l e { frames := 0, cells := 0, slots := 0, locals := 0 } s m args below meth c H locs 0 0 (MQ below (rs_Qi G Bm S Q) args s 0 0 (rs_A Bm)) (F0 m 2 ls []) := by
  have hx := C.1
  have hb := C.2.1
  intro n
  induction n with
  | zero => intros; rename_i hF; exact hF.elim
  | succ n hK2 =>
    intro v0 x1 x2 x3 σ H locs ls h_v0 hH hT hS hl hF
    replace hF : G_Ch_isBeaten_2 S.2.2 Q (L_Ch_isBeaten_2 S.2.2 Q n) v0 x1 x2 x3 σ := hF
    unfold G_Ch_isBeaten_2 at hF
    refine lv_iload_n hx hb d_Ch_isBeaten_2 rfl (lv_at hl 3 rfl) ?_
    refine lv_iconst hx hb d_Ch_isBeaten_3 ki_5 ?_
    refine lv_icmp_ge hx hb d_Ch_isBeaten_4 (tgt := 63) rfl (fun hc => ?_) (fun hc => ?_)
    · replace hF := hF.1 hc
      refine lv_iconst hx hb d_Ch_isBeaten_63 ki_0 ?_
      exact rs_zret C hH hT hS (by decide) hF d_Ch_isBeaten_64
    · replace hF := hF.2 hc
      refine lv_aload_n hx hb d_Ch_isBeaten_7 rfl (lv_at hl 0 rfl) ?_
      refine rs_getR C hH hT h_v0 fk_2_2 tw_158 d_Ch_isBeaten_8 (fun h51 => ?_)
      refine lv_iload_n hx hb d_Ch_isBeaten_11 rfl (lv_at hl 3 rfl) ?_
      obtain ⟨g52, hF⟩ := hF
      refine rs_zald C hH h51 g52 d_Ch_isBeaten_12 ?_
      refine lv_if_eq hx hb d_Ch_isBeaten_13 (tgt := 57) rfl (fun hc => ?_) (fun hc => ?_)
      · replace hF := hF.1 hc
        obtain ⟨x53, ex53⟩ : ∃ z : Int32, z = x3 + (1 : Int32) := ⟨_, rfl⟩
        replace hF := hF x53 ex53
        refine lv_iinc hx hb d_Ch_isBeaten_57 hl (k := 3) rfl (v := x53) (by rw [ki_1, ex53]) (by decide) (lv' := [(3, .int x53), (0, .ref (Bm + v0)), (1, .int x1), (2, .int x2)]) rfl (fun ls hl => ?_)
        refine lv_goto hx hb d_Ch_isBeaten_60 (tgt := 2) rfl ?_
        exact hK2 v0 x1 x2 x53 σ _ _ _ h_v0 hH hT hS (lv_sub hl [1, 2, 3, 0] rfl) hF
      · replace hF := hF.2 hc
        refine lv_aload_n hx hb d_Ch_isBeaten_16 rfl (lv_at hl 0 rfl) ?_
        refine rs_getR C hH hT h_v0 fk_2_0 tw_156 d_Ch_isBeaten_17 (fun h53 => ?_)
        refine lv_iload_n hx hb d_Ch_isBeaten_20 rfl (lv_at hl 1 rfl) ?_
        obtain ⟨g54, hF⟩ := hF
        refine rs_aald C hH hT h53 ak_26 g54 d_Ch_isBeaten_21 (fun h55 => ?_)
        refine lv_iload_n hx hb d_Ch_isBeaten_22 rfl (lv_at hl 3 rfl) ?_
        obtain ⟨g56, hF⟩ := hF
        refine rs_iald C hH h55 g56 d_Ch_isBeaten_23 ?_
        refine lv_aload_n hx hb d_Ch_isBeaten_24 rfl (lv_at hl 0 rfl) ?_
        refine rs_getR C hH hT h_v0 fk_2_0 tw_156 d_Ch_isBeaten_25 (fun h57 => ?_)
        refine lv_iload_n hx hb d_Ch_isBeaten_28 rfl (lv_at hl 1 rfl) ?_
        obtain ⟨g58, hF⟩ := hF
        refine rs_aald C hH hT h57 ak_26 g58 d_Ch_isBeaten_29 (fun h59 => ?_)
        refine lv_iload_n hx hb d_Ch_isBeaten_30 rfl (lv_at hl 2 rfl) ?_
        obtain ⟨g60, hF⟩ := hF
        refine rs_iald C hH h59 g60 d_Ch_isBeaten_31 ?_
        refine lv_icmp_ge hx hb d_Ch_isBeaten_32 (tgt := 57) rfl (fun hc => ?_) (fun hc => ?_)
        · replace hF := hF.1 hc
          obtain ⟨x61, ex61⟩ : ∃ z : Int32, z = x3 + (1 : Int32) := ⟨_, rfl⟩
          replace hF := hF x61 ex61
          refine lv_iinc hx hb d_Ch_isBeaten_57 hl (k := 3) rfl (v := x61) (by rw [ki_1, ex61]) (by decide) (lv' := [(3, .int x61), (0, .ref (Bm + v0)), (1, .int x1), (2, .int x2)]) rfl (fun ls hl => ?_)
          refine lv_goto hx hb d_Ch_isBeaten_60 (tgt := 2) rfl ?_
          exact hK2 v0 x1 x2 x61 σ _ _ _ h_v0 hH hT hS (lv_sub hl [1, 2, 3, 0] rfl) hF
        · replace hF := hF.2 hc
          refine lv_iload_n hx hb d_Ch_isBeaten_35 rfl (lv_at hl 1 rfl) ?_
          refine lv_iconst hx hb d_Ch_isBeaten_36 ki_3 ?_
          refine lv_icmp_ne hx hb d_Ch_isBeaten_37 (tgt := 55) rfl (fun hc => ?_) (fun hc => ?_)
          · replace hF := hF.1 hc
            refine lv_iconst hx hb d_Ch_isBeaten_55 ki_1 ?_
            exact rs_zret C hH hT hS (by decide) hF d_Ch_isBeaten_56
          · replace hF := hF.2 hc
            refine lv_aload_n hx hb d_Ch_isBeaten_40 rfl (lv_at hl 0 rfl) ?_
            refine rs_getR C hH hT h_v0 fk_2_1 tw_157 d_Ch_isBeaten_41 (fun h61 => ?_)
            refine lv_iload_n hx hb d_Ch_isBeaten_44 rfl (lv_at hl 3 rfl) ?_
            obtain ⟨g62, hF⟩ := hF
            refine rs_iald C hH h61 g62 d_Ch_isBeaten_45 ?_
            refine lv_aload_n hx hb d_Ch_isBeaten_46 rfl (lv_at hl 0 rfl) ?_
            refine rs_getR C hH hT h_v0 fk_2_1 tw_157 d_Ch_isBeaten_47 (fun h63 => ?_)
            refine lv_iload_n hx hb d_Ch_isBeaten_50 rfl (lv_at hl 2 rfl) ?_
            obtain ⟨g64, hF⟩ := hF
            refine rs_iald C hH h63 g64 d_Ch_isBeaten_51 ?_
            refine lv_icmp_ne hx hb d_Ch_isBeaten_52 (tgt := 57) rfl (fun hc => ?_) (fun hc => ?_)
            · replace hF := hF.1 hc
              obtain ⟨x65, ex65⟩ : ∃ z : Int32, z = x3 + (1 : Int32) := ⟨_, rfl⟩
              replace hF := hF x65 ex65
              refine lv_iinc hx hb d_Ch_isBeaten_57 hl (k := 3) rfl (v := x65) (by rw [ki_1, ex65]) (by decide) (lv' := [(3, .int x65), (0, .ref (Bm + v0)), (1, .int x1), (2, .int x2)]) rfl (fun ls hl => ?_)
              refine lv_goto hx hb d_Ch_isBeaten_60 (tgt := 2) rfl ?_
              exact hK2 v0 x1 x2 x65 σ _ _ _ h_v0 hH hT hS (lv_sub hl [1, 2, 3, 0] rfl) hF
            · replace hF := hF.2 hc
              refine lv_iconst hx hb d_Ch_isBeaten_55 ki_1 ?_
              exact rs_zret C hH hT hS (by decide) hF d_Ch_isBeaten_56
abbrev y_Ch_isBeaten : MethodName := ({ cls := "RouteSpeaker$Choice", name := "isBeaten", desc := "(II)Z" } : Jvm.MethodName)
theorem rc_Ch_isBeaten : rs_Cal y_Ch_isBeaten prog_2_method_6_code 4 (some .boolean) 2 := ⟨tw_446, tw_5, by decide, by decide, by decide +kernel⟩
set_option maxRecDepth 20000 in
theorem J_Ch_isBeaten (l : Launch) {G : rs_G} {Bm : Nat} {S : rs_Shp} {v0 : Nat} {x1 : Int32} {x2 : Int32} {σ : rs_Mem} {Q : Int32 → rs_Mem → Prop} (h_v0 : rs_Ok S 2 v0) (hF : F_Ch_isBeaten S.2.2 v0 x1 x2 σ Q) :
    Met l y_Ch_isBeaten (rs_ws y_Ch_isBeaten prog_2_method_6_code 4 (some .boolean)) { frames := 0, cells := 0, slots := 0, locals := 0 } (rs_P G Bm S σ [.ref (Bm + v0), .int x1, .int x2]) (rs_Qi G Bm S Q) 0 0 (rs_A Bm) := by
  refine rs_met (own := "RouteSpeaker$Choice") (by decide) rfl (Nat.le_of_ble_eq_true rfl) (fun p e s m below meth c ls C hl hH hT hS => ?_)
  replace hl : lv_has ls 4 [(0, .ref (Bm + v0)), (1, .int x1), (2, .int x2)] := hl
  have hx := C.1
  have hb := C.2.1
  unfold F_Ch_isBeaten at hF
  refine lv_iconst hx hb d_Ch_isBeaten_0 ki_0 ?_
  refine lv_istore_n hx hb d_Ch_isBeaten_1 rfl hl (by decide) (lv' := [(3, .int (0 : Int32)), (0, .ref (Bm + v0)), (1, .int x1), (2, .int x2)]) rfl (fun ls hl => ?_)
  obtain ⟨n, hF⟩ := hF
  exact JL_Ch_isBeaten_2 C n v0 x1 x2 (0 : Int32) σ _ _ _ h_v0 hH hT hS (lv_sub hl [1, 2, 3, 0] rfl) hF
/-! RouteSpeaker$Choice.dropBeaten(I)V -/
theorem d_Ch_dropBeaten_0 : decode prog_2_method_5_code 0 = .ok (.iconst 0, 1) := by decide +kernel
theorem d_Ch_dropBeaten_1 : decode prog_2_method_5_code 1 = .ok (.istore_n 2, 1) := by decide +kernel
theorem d_Ch_dropBeaten_2 : decode prog_2_method_5_code 2 = .ok (.iload_n 2, 1) := by decide +kernel
theorem d_Ch_dropBeaten_3 : decode prog_2_method_5_code 3 = .ok (.iconst 5, 1) := by decide +kernel
theorem d_Ch_dropBeaten_4 : decode prog_2_method_5_code 4 = .ok (.if_icmp .ge (38), 3) := by decide +kernel
theorem d_Ch_dropBeaten_7 : decode prog_2_method_5_code 7 = .ok (.aload_n 0, 1) := by decide +kernel
theorem d_Ch_dropBeaten_8 : decode prog_2_method_5_code 8 = .ok (.getfield 20, 3) := by decide +kernel
theorem d_Ch_dropBeaten_11 : decode prog_2_method_5_code 11 = .ok (.iload_n 2, 1) := by decide +kernel
theorem d_Ch_dropBeaten_12 : decode prog_2_method_5_code 12 = .ok (.aload_n 0, 1) := by decide +kernel
theorem d_Ch_dropBeaten_13 : decode prog_2_method_5_code 13 = .ok (.getfield 20, 3) := by decide +kernel
theorem d_Ch_dropBeaten_16 : decode prog_2_method_5_code 16 = .ok (.iload_n 2, 1) := by decide +kernel
theorem d_Ch_dropBeaten_17 : decode prog_2_method_5_code 17 = .ok (.baload, 1) := by decide +kernel
theorem d_Ch_dropBeaten_18 : decode prog_2_method_5_code 18 = .ok (.ifCond .eq (16), 3) := by decide +kernel
theorem d_Ch_dropBeaten_21 : decode prog_2_method_5_code 21 = .ok (.aload_n 0, 1) := by decide +kernel
theorem d_Ch_dropBeaten_22 : decode prog_2_method_5_code 22 = .ok (.iload_n 1, 1) := by decide +kernel
theorem d_Ch_dropBeaten_23 : decode prog_2_method_5_code 23 = .ok (.iload_n 2, 1) := by decide +kernel
theorem d_Ch_dropBeaten_24 : decode prog_2_method_5_code 24 = .ok (.invokevirtual 51, 3) := by decide +kernel
theorem d_Ch_dropBeaten_27 : decode prog_2_method_5_code 27 = .ok (.ifCond .ne (7), 3) := by decide +kernel
theorem d_Ch_dropBeaten_30 : decode prog_2_method_5_code 30 = .ok (.iconst 1, 1) := by decide +kernel
theorem d_Ch_dropBeaten_31 : decode prog_2_method_5_code 31 = .ok (.goto (4), 3) := by decide +kernel
theorem d_Ch_dropBeaten_34 : decode prog_2_method_5_code 34 = .ok (.iconst 0, 1) := by decide +kernel
theorem d_Ch_dropBeaten_35 : decode prog_2_method_5_code 35 = .ok (.bastore, 1) := by decide +kernel
theorem d_Ch_dropBeaten_36 : decode prog_2_method_5_code 36 = .ok (.iinc 2 (1), 3) := by decide +kernel
theorem d_Ch_dropBeaten_39 : decode prog_2_method_5_code 39 = .ok (.goto (-37), 3) := by decide +kernel
theorem d_Ch_dropBeaten_42 : decode prog_2_method_5_code 42 = .ok (.return_, 1) := by decide +kernel
def B_Ch_dropBeaten_34 (N : Nat → Nat) (K2 : Nat → Int32 → Int32 → rs_Mem → Prop) (Q : rs_Mem → Prop) (v0 : Nat) (x1 : Int32) (x2 : Int32) (w0 : Nat) (y1 : Int32) (σ : rs_Mem) : Prop :=
  (vp_in y1 (N w0) ∧ ∀ σ52 : rs_Mem, σ52 = rs_sI σ w0 y1.toNatClampNeg (0 : Int32) → (∀ x53 : Int32, x53 = x2 + (1 : Int32) → (K2 v0 x1 x53 σ52)))
def G_Ch_dropBeaten_2 (N : Nat → Nat) (Q : rs_Mem → Prop) (K2 : Nat → Int32 → Int32 → rs_Mem → Prop) (v0 : Nat) (x1 : Int32) (x2 : Int32) (σ : rs_Mem) : Prop :=
  (((5 : Int32) ≤ x2 → (Q σ)) ∧ (¬ ((5 : Int32) ≤ x2) → (vp_in x2 (N (rs_R σ v0 2)) ∧ (((rs_I σ (rs_R σ v0 2) x2.toNatClampNeg) = 0 → (B_Ch_dropBeaten_34 N K2 Q v0 x1 x2 (rs_R σ v0 2) x2 σ)) ∧ (¬ ((rs_I σ (rs_R σ v0 2) x2.toNatClampNeg) = 0) → (F_Ch_isBeaten N v0 x1 x2 σ (fun x55 σ54 => ((¬ (x55 = 0) → (B_Ch_dropBeaten_34 N K2 Q v0 x1 x2 (rs_R σ v0 2) x2 σ54)) ∧ (x55 = 0 → (vp_in x2 (N (rs_R σ v0 2)) ∧ ∀ σ57 : rs_Mem, σ57 = rs_sI σ54 (rs_R σ v0 2) x2.toNatClampNeg (1 : Int32) → (∀ x58 : Int32, x58 = x2 + (1 : Int32) → (K2 v0 x1 x58 σ57))))))))))))
noncomputable def L_Ch_dropBeaten_2 (N : Nat → Nat) (Q : rs_Mem → Prop) (n : Nat) : Nat → Int32 → Int32 → rs_Mem → Prop := Nat.rec (motive := fun _ => Nat → Int32 → Int32 → rs_Mem → Prop) (fun _ _ _ _ => False) (fun _ K => G_Ch_dropBeaten_2 N Q K) n
def F_Ch_dropBeaten (N : Nat → Nat) (v0 : Nat) (x1 : Int32) (σ : rs_Mem) (Q : rs_Mem → Prop) : Prop :=
  (∃ n : Nat, L_Ch_dropBeaten_2 N Q n v0 x1 (0 : Int32) σ)
set_option maxRecDepth 20000 in
theorem JB_Ch_dropBeaten_34 {p : Program} {l : Launch} {e : Env} {s : State} {m : MethodId} {args : Array Value} {below : List Frame} {meth : Method} {c : Code} {G : rs_G} {Bm : Nat} {S : rs_Shp} {K2 : Nat → Int32 → Int32 → rs_Mem → Prop} {Q : rs_Mem → Prop} (C : rs_C "RouteSpeaker$Choice" prog_2_method_5_code 3 none G p s m meth c args) (hK2 : ∀ (v0 : Nat) (x1 : Int32) (x2 : Int32) (σ : rs_Mem) (H : Heap) (locs : List Loc) (ls : Array Slot), rs_Ok S 2 v0 → rs_H G Bm S σ H → rs_T S σ → va_S (rs_A Bm) s.heap H locs → lv_has ls 3 [(0, .ref (Bm + v0)), (1, .int x1), (2, .int x2)] → K2 v0 x1 x2 σ → W p l e { frames := 1, cells := 0, slots := 0, locals := 23 } s m args below meth c H locs 0 0 (MQ below (rs_Qv G Bm S Q) args s 0 0 (rs_A Bm)) (F0 m 2 ls [])) (v0 : Nat) (x1 : Int32) (x2 : Int32) (w0 : Nat) (y1 : Int32) (σ : rs_Mem) (H : Heap) (locs : List Loc) (ls : Array Slot) (h_v0 : rs_Ok S 2 v0) (h_w0 : rs_Ok S 21 w0) (hH : rs_H G Bm S σ H) (hT : rs_T S σ) (hS : va_S (rs_A Bm) s.heap H locs) (hl : lv_has ls 3 [(0, .ref (Bm + v0)), (1, .int x1), (2, .int x2)]) (hF : B_Ch_dropBeaten_34 S.2.2 K2 Q v0 x1 x2 w0 y1 σ) :
    W p l e { frames := 1, cells := 0, slots := 0, locals := 23 } s m args below meth c H locs 0 0 (MQ below (rs_Qv G Bm S Q) args s 0 0 (rs_A Bm)) (F0 m 34 ls [.int y1, .ref (Bm + w0)]) := by
  have hx := C.1
  have hb := C.2.1
  unfold B_Ch_dropBeaten_34 at hF
  refine lv_iconst hx hb d_Ch_dropBeaten_34 ki_0 ?_
  obtain ⟨g51, hF⟩ := hF
  refine rs_zast C hH hT hS (by decide) h_w0 g51 d_Ch_dropBeaten_35 (fun σ52 H locs eσ52 hH hT hS => ?_)
  replace hF := hF σ52 eσ52
  obtain ⟨x53, ex53⟩ : ∃ z : Int32, z = x2 + (1 : Int32) := ⟨_, rfl⟩
  replace hF := hF x53 ex53
  refine lv_iinc hx hb d_Ch_dropBeaten_36 hl (k := 2) rfl (v := x53) (by rw [ki_1, ex53]) (by decide) (lv' := [(2, .int x53), (0, .ref (Bm + v0)), (1, .int x1)]) rfl (fun ls hl => ?_)
  refine lv_goto hx hb d_Ch_dropBeaten_39 (tgt := 2) rfl ?_
  exact hK2 v0 x1 x53 σ52 _ _ _ h_v0 hH hT hS (lv_sub hl [1, 2, 0] rfl) hF
set_option maxRecDepth 20000 in
theorem JL_Ch_dropBeaten_2 {p : Program} {l : Launch} {e : Env} {s : State} {m : MethodId} {args : Array Value} {below : List Frame} {meth : Method} {c : Code} {G : rs_G} {Bm : Nat} {S : rs_Shp} {Q : rs_Mem → Prop} (C : rs_C "RouteSpeaker$Choice" prog_2_method_5_code 3 none G p s m meth c args) : ∀ n : Nat, ∀ (v0 : Nat) (x1 : Int32) (x2 : Int32) (σ : rs_Mem) (H : Heap) (locs : List Loc) (ls : Array Slot), rs_Ok S 2 v0 → rs_H G Bm S σ H → rs_T S σ → va_S (rs_A Bm) s.heap H locs → lv_has ls 3 [(0, .ref (Bm + v0)), (1, .int x1), (2, .int x2)] → (L_Ch_dropBeaten_2 S.2.2 Q n) v0 x1 x2 σ → W p l e { frames := 1, cells := 0, slots := 0, locals := 23 } s m args below meth c H locs 0 0 (MQ below (rs_Qv G Bm S Q) args s 0 0 (rs_A Bm)) (F0 m 2 ls []) := by
  have hx := C.1
  have hb := C.2.1
  intro n
  induction n with
  | zero => intros; rename_i hF; exact hF.elim
  | succ n hK2 =>
    intro v0 x1 x2 σ H locs ls h_v0 hH hT hS hl hF
    replace hF : G_Ch_dropBeaten_2 S.2.2 Q (L_Ch_dropBeaten_2 S.2.2 Q n) v0 x1 x2 σ := hF
    unfold G_Ch_dropBeaten_2 at hF
    refine lv_iload_n hx hb d_Ch_dropBeaten_2 rfl (lv_at hl 2 rfl) ?_
    refine lv_iconst hx hb d_Ch_dropBeaten_3 ki_5 ?_
    refine lv_icmp_ge hx hb d_Ch_dropBeaten_4 (tgt := 42) rfl (fun hc => ?_) (fun hc => ?_)
    · replace hF := hF.1 hc
      exact rs_vret C hH hT hS hF d_Ch_dropBeaten_42
    · replace hF := hF.2 hc
      refine lv_aload_n hx hb d_Ch_dropBeaten_7 rfl (lv_at hl 0 rfl) ?_
      refine rs_getR C hH hT h_v0 fk_2_2 tw_158 d_Ch_dropBeaten_8 (fun h51 => ?_)
      refine lv_iload_n hx hb d_Ch_dropBeaten_11 rfl (lv_at hl 2 rfl) ?_
      refine lv_aload_n hx hb d_Ch_dropBeaten_12 rfl (lv_at hl 0 rfl) ?_
      refine rs_getR C hH hT h_v0 fk_2_2 tw_158 d_Ch_dropBeaten_13 (fun h52 => ?_)
      refine lv_iload_n hx hb d_Ch_dropBeaten_16 rfl (lv_at hl 2 rfl) ?_
      obtain ⟨g53, hF⟩ := hF
      refine rs_zald C hH h52 g53 d_Ch_dropBeaten_17 ?_
      refine lv_if_eq hx hb d_Ch_dropBeaten_18 (tgt := 34) rfl (fun hc => ?_) (fun hc => ?_)
      · replace hF := hF.1 hc
        exact JB_Ch_dropBeaten_34 C hK2 v0 x1 x2 (rs_R σ v0 2) x2 σ _ _ _ h_v0 h51 hH hT hS (lv_sub hl [0, 1, 2] rfl) hF
      · replace hF := hF.2 hc
        refine lv_aload_n hx hb d_Ch_dropBeaten_21 rfl (lv_at hl 0 rfl) ?_
        refine lv_iload_n hx hb d_Ch_dropBeaten_22 rfl (lv_at hl 1 rfl) ?_
        refine lv_iload_n hx hb d_Ch_dropBeaten_23 rfl (lv_at hl 2 rfl) ?_
        refine rs_ci (rs_runV C hH hT hl (J_Ch_isBeaten l h_v0 hF) rc_Ch_isBeaten tw_443 tw_445 ts_11 h_v0 ⟨rfl, by decide, by decide⟩ rfl ⟨⟨rfl, rfl⟩, by decide, by decide, by decide⟩ (Nat.le_of_ble_eq_true rfl) rfl d_Ch_dropBeaten_24) hS (fun x55 σ54 H locs hH hT hS hF => ?_)
        refine lv_if_ne hx hb d_Ch_dropBeaten_27 (tgt := 34) rfl (fun hc => ?_) (fun hc => ?_)
        · replace hF := hF.1 hc
          exact JB_Ch_dropBeaten_34 C hK2 v0 x1 x2 (rs_R σ v0 2) x2 σ54 _ _ _ h_v0 h51 hH hT hS (lv_sub hl [0, 1, 2] rfl) hF
        · replace hF := hF.2 hc
          refine lv_iconst hx hb d_Ch_dropBeaten_30 ki_1 ?_
          refine lv_goto hx hb d_Ch_dropBeaten_31 (tgt := 35) rfl ?_
          obtain ⟨g56, hF⟩ := hF
          refine rs_zast C hH hT hS (by decide) h51 g56 d_Ch_dropBeaten_35 (fun σ57 H locs eσ57 hH hT hS => ?_)
          replace hF := hF σ57 eσ57
          obtain ⟨x58, ex58⟩ : ∃ z : Int32, z = x2 + (1 : Int32) := ⟨_, rfl⟩
          replace hF := hF x58 ex58
          refine lv_iinc hx hb d_Ch_dropBeaten_36 hl (k := 2) rfl (v := x58) (by rw [ki_1, ex58]) (by decide) (lv' := [(2, .int x58), (0, .ref (Bm + v0)), (1, .int x1)]) rfl (fun ls hl => ?_)
          refine lv_goto hx hb d_Ch_dropBeaten_39 (tgt := 2) rfl ?_
          exact hK2 v0 x1 x58 σ57 _ _ _ h_v0 hH hT hS (lv_sub hl [1, 2, 0] rfl) hF
abbrev y_Ch_dropBeaten : MethodName := ({ cls := "RouteSpeaker$Choice", name := "dropBeaten", desc := "(I)V" } : Jvm.MethodName)
theorem rc_Ch_dropBeaten : rs_Cal y_Ch_dropBeaten prog_2_method_5_code 3 none 1 := ⟨tw_442, tw_5, by decide, by decide, by decide +kernel⟩
set_option maxRecDepth 20000 in
theorem J_Ch_dropBeaten (l : Launch) {G : rs_G} {Bm : Nat} {S : rs_Shp} {v0 : Nat} {x1 : Int32} {σ : rs_Mem} {Q : rs_Mem → Prop} (h_v0 : rs_Ok S 2 v0) (hF : F_Ch_dropBeaten S.2.2 v0 x1 σ Q) :
    Met l y_Ch_dropBeaten (rs_ws y_Ch_dropBeaten prog_2_method_5_code 3 none) { frames := 1, cells := 0, slots := 0, locals := 23 } (rs_P G Bm S σ [.ref (Bm + v0), .int x1]) (rs_Qv G Bm S Q) 0 0 (rs_A Bm) := by
  refine rs_met (own := "RouteSpeaker$Choice") (by decide) rfl (Nat.le_of_ble_eq_true rfl) (fun p e s m below meth c ls C hl hH hT hS => ?_)
  replace hl : lv_has ls 3 [(0, .ref (Bm + v0)), (1, .int x1)] := hl
  have hx := C.1
  have hb := C.2.1
  unfold F_Ch_dropBeaten at hF
  refine lv_iconst hx hb d_Ch_dropBeaten_0 ki_0 ?_
  refine lv_istore_n hx hb d_Ch_dropBeaten_1 rfl hl (by decide) (lv' := [(2, .int (0 : Int32)), (0, .ref (Bm + v0)), (1, .int x1)]) rfl (fun ls hl => ?_)
  obtain ⟨n, hF⟩ := hF
  exact JL_Ch_dropBeaten_2 C n v0 x1 (0 : Int32) σ _ _ _ h_v0 hH hT hS (lv_sub hl [1, 2, 0] rfl) hF
