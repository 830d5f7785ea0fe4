/-! RouteSpeaker$Peer.lookWhenUp(ILRouteSpeaker$Update;LRouteSpeaker$Prefixes;)V -/
theorem d_Pe_lookWhenUp_0 : decode prog_6_method_19_code 0 = .ok (.iload_n 1, 1) := by decide +kernel
theorem d_Pe_lookWhenUp_1 : decode prog_6_method_19_code 1 = .ok (.iconst 1, 1) := by decide +kernel
theorem d_Pe_lookWhenUp_2 : decode prog_6_method_19_code 2 = .ok (.if_icmp .ne (10), 3) := by decide +kernel
theorem d_Pe_lookWhenUp_5 : decode prog_6_method_19_code 5 = .ok (.aload_n 0, 1) := by decide +kernel
theorem d_Pe_lookWhenUp_6 : decode prog_6_method_19_code 6 = .ok (.iconst 5, 1) := by decide +kernel
theorem d_Pe_lookWhenUp_7 : decode prog_6_method_19_code 7 = .ok (.iconst 3, 1) := by decide +kernel
theorem d_Pe_lookWhenUp_8 : decode prog_6_method_19_code 8 = .ok (.invokevirtual 74, 3) := by decide +kernel
theorem d_Pe_lookWhenUp_11 : decode prog_6_method_19_code 11 = .ok (.return_, 1) := by decide +kernel
theorem d_Pe_lookWhenUp_12 : decode prog_6_method_19_code 12 = .ok (.aload_n 0, 1) := by decide +kernel
theorem d_Pe_lookWhenUp_13 : decode prog_6_method_19_code 13 = .ok (.aload_n 0, 1) := by decide +kernel
theorem d_Pe_lookWhenUp_14 : decode prog_6_method_19_code 14 = .ok (.getfield 93, 3) := by decide +kernel
theorem d_Pe_lookWhenUp_17 : decode prog_6_method_19_code 17 = .ok (.putfield 61, 3) := by decide +kernel
theorem d_Pe_lookWhenUp_20 : decode prog_6_method_19_code 20 = .ok (.iload_n 1, 1) := by decide +kernel
theorem d_Pe_lookWhenUp_21 : decode prog_6_method_19_code 21 = .ok (.iconst 2, 1) := by decide +kernel
theorem d_Pe_lookWhenUp_22 : decode prog_6_method_19_code 22 = .ok (.if_icmp .eq (4), 3) := by decide +kernel
theorem d_Pe_lookWhenUp_25 : decode prog_6_method_19_code 25 = .ok (.return_, 1) := by decide +kernel
theorem d_Pe_lookWhenUp_26 : decode prog_6_method_19_code 26 = .ok (.aload_n 2, 1) := by decide +kernel
theorem d_Pe_lookWhenUp_27 : decode prog_6_method_19_code 27 = .ok (.aload_n 0, 1) := by decide +kernel
theorem d_Pe_lookWhenUp_28 : decode prog_6_method_19_code 28 = .ok (.getfield 22, 3) := by decide +kernel
theorem d_Pe_lookWhenUp_31 : decode prog_6_method_19_code 31 = .ok (.aload_n 0, 1) := by decide +kernel
theorem d_Pe_lookWhenUp_32 : decode prog_6_method_19_code 32 = .ok (.getfield 22, 3) := by decide +kernel
theorem d_Pe_lookWhenUp_35 : decode prog_6_method_19_code 35 = .ok (.iconst 0, 1) := by decide +kernel
theorem d_Pe_lookWhenUp_36 : decode prog_6_method_19_code 36 = .ok (.iaload, 1) := by decide +kernel
theorem d_Pe_lookWhenUp_37 : decode prog_6_method_19_code 37 = .ok (.aload_n 0, 1) := by decide +kernel
theorem d_Pe_lookWhenUp_38 : decode prog_6_method_19_code 38 = .ok (.getfield 137, 3) := by decide +kernel
theorem d_Pe_lookWhenUp_41 : decode prog_6_method_19_code 41 = .ok (.ifCond .ne (7), 3) := by decide +kernel
theorem d_Pe_lookWhenUp_44 : decode prog_6_method_19_code 44 = .ok (.iconst 1, 1) := by decide +kernel
theorem d_Pe_lookWhenUp_45 : decode prog_6_method_19_code 45 = .ok (.goto (4), 3) := by decide +kernel
theorem d_Pe_lookWhenUp_48 : decode prog_6_method_19_code 48 = .ok (.iconst 0, 1) := by decide +kernel
theorem d_Pe_lookWhenUp_49 : decode prog_6_method_19_code 49 = .ok (.aload_n 0, 1) := by decide +kernel
theorem d_Pe_lookWhenUp_50 : decode prog_6_method_19_code 50 = .ok (.getfield 48, 3) := by decide +kernel
theorem d_Pe_lookWhenUp_53 : decode prog_6_method_19_code 53 = .ok (.invokevirtual 140, 3) := by decide +kernel
theorem d_Pe_lookWhenUp_56 : decode prog_6_method_19_code 56 = .ok (.istore 4, 2) := by decide +kernel
theorem d_Pe_lookWhenUp_58 : decode prog_6_method_19_code 58 = .ok (.iload 4, 2) := by decide +kernel
theorem d_Pe_lookWhenUp_60 : decode prog_6_method_19_code 60 = .ok (.ifCond .eq (13), 3) := by decide +kernel
theorem d_Pe_lookWhenUp_63 : decode prog_6_method_19_code 63 = .ok (.aload_n 0, 1) := by decide +kernel
theorem d_Pe_lookWhenUp_64 : decode prog_6_method_19_code 64 = .ok (.iconst 3, 1) := by decide +kernel
theorem d_Pe_lookWhenUp_65 : decode prog_6_method_19_code 65 = .ok (.iload 4, 2) := by decide +kernel
theorem d_Pe_lookWhenUp_67 : decode prog_6_method_19_code 67 = .ok (.invokevirtual 74, 3) := by decide +kernel
theorem d_Pe_lookWhenUp_70 : decode prog_6_method_19_code 70 = .ok (.goto (29), 3) := by decide +kernel
theorem d_Pe_lookWhenUp_73 : decode prog_6_method_19_code 73 = .ok (.aload_n 2, 1) := by decide +kernel
theorem d_Pe_lookWhenUp_74 : decode prog_6_method_19_code 74 = .ok (.aload_n 3, 1) := by decide +kernel
theorem d_Pe_lookWhenUp_75 : decode prog_6_method_19_code 75 = .ok (.invokevirtual 146, 3) := by decide +kernel
theorem d_Pe_lookWhenUp_78 : decode prog_6_method_19_code 78 = .ok (.bipush (12), 2) := by decide +kernel
theorem d_Pe_lookWhenUp_80 : decode prog_6_method_19_code 80 = .ok (.if_icmp .le (13), 3) := by decide +kernel
theorem d_Pe_lookWhenUp_83 : decode prog_6_method_19_code 83 = .ok (.aload_n 0, 1) := by decide +kernel
theorem d_Pe_lookWhenUp_84 : decode prog_6_method_19_code 84 = .ok (.bipush (6), 2) := by decide +kernel
theorem d_Pe_lookWhenUp_86 : decode prog_6_method_19_code 86 = .ok (.iconst 1, 1) := by decide +kernel
theorem d_Pe_lookWhenUp_87 : decode prog_6_method_19_code 87 = .ok (.invokevirtual 74, 3) := by decide +kernel
theorem d_Pe_lookWhenUp_90 : decode prog_6_method_19_code 90 = .ok (.goto (9), 3) := by decide +kernel
theorem d_Pe_lookWhenUp_93 : decode prog_6_method_19_code 93 = .ok (.aload_n 0, 1) := by decide +kernel
theorem d_Pe_lookWhenUp_94 : decode prog_6_method_19_code 94 = .ok (.aload_n 2, 1) := by decide +kernel
theorem d_Pe_lookWhenUp_95 : decode prog_6_method_19_code 95 = .ok (.aload_n 3, 1) := by decide +kernel
theorem d_Pe_lookWhenUp_96 : decode prog_6_method_19_code 96 = .ok (.invokevirtual 150, 3) := by decide +kernel
theorem d_Pe_lookWhenUp_99 : decode prog_6_method_19_code 99 = .ok (.return_, 1) := by decide +kernel
def B_Pe_lookWhenUp_49 (N : Nat → Nat) (Q : rs_Mem → Prop) (v0 : Nat) (v2 : Nat) (v3 : Nat) (w0 : Nat) (w1 : Nat) (y2 : Int32) (y3 : Int32) (σ : rs_Mem) : Prop :=
  (F_Up_faultOf N w0 w1 y2 y3 (rs_I σ v0 1) σ (fun x52 σ51 => ((x52 = 0 → (F_Up_countKnown N v2 v3 σ51 (fun x54 σ53 => ((x54 ≤ (12 : Int32) → (F_Pe_takeIn N v0 v2 v3 σ53 (fun σ55 => (Q σ55)))) ∧ (¬ (x54 ≤ (12 : Int32)) → (F_Pe_end N v0 (6 : Int32) (1 : Int32) σ53 (fun σ55 => (Q σ55)))))))) ∧ (¬ (x52 = 0) → (F_Pe_end N v0 (3 : Int32) x52 σ51 (fun σ53 => (Q σ53)))))))
def F_Pe_lookWhenUp (N : Nat → Nat) (v0 : Nat) (x1 : Int32) (v2 : Nat) (v3 : Nat) (σ : rs_Mem) (Q : rs_Mem → Prop) : Prop :=
  ((¬ (x1 = (1 : Int32)) → (∀ σ51 : rs_Mem, σ51 = rs_sI σ v0 7 (rs_I σ v0 9) → ((x1 = (2 : Int32) → (vp_in (0 : Int32) (N (rs_R σ51 v0 12)) ∧ ((¬ ((rs_I σ51 v0 0) = 0) → (B_Pe_lookWhenUp_49 N Q v0 v2 v3 v2 (rs_R σ51 v0 12) (rs_I σ51 (rs_R σ51 v0 12) (0 : Int32).toNatClampNeg) (0 : Int32) σ51)) ∧ ((rs_I σ51 v0 0) = 0 → (B_Pe_lookWhenUp_49 N Q v0 v2 v3 v2 (rs_R σ51 v0 12) (rs_I σ51 (rs_R σ51 v0 12) (0 : Int32).toNatClampNeg) (1 : Int32) σ51))))) ∧ (¬ (x1 = (2 : Int32)) → (Q σ51))))) ∧ (x1 = (1 : Int32) → (F_Pe_end N v0 (5 : Int32) (3 : Int32) σ (fun σ51 => (Q σ51)))))
set_option maxRecDepth 20000 in
theorem JB_Pe_lookWhenUp_49 {p : Program} {l : Launch} {e : Env} {s : State} {m : MethodId} {args : Array Value} {below : List Frame} {meth : Method} {c : Code} {G : rs_G} {Bm : Nat} {S : rs_Shp} {Q : rs_Mem → Prop} (C : rs_C "RouteSpeaker$Peer" prog_6_method_19_code 5 none G p s m meth c args) (v0 : Nat) (v2 : Nat) (v3 : Nat) (w0 : Nat) (w1 : Nat) (y2 : Int32) (y3 : Int32) (σ : rs_Mem) (H : Heap) (locs : List Loc) (ls : Array Slot) (h_v0 : rs_Ok S 6 v0) (h_v2 : rs_Ok S 10 v2) (h_v3 : rs_Ok S 7 v3) (h_w0 : rs_Ok S 10 w0) (h_w1 : rs_Ok S 20 w1) (hH : rs_H G Bm S σ H) (hT : rs_T S σ) (hS : va_S (rs_A Bm) s.heap H locs) (hl : lv_has ls 5 [(0, .ref (Bm + v0)), (2, .ref (Bm + v2)), (3, .ref (Bm + v3))]) (hF : B_Pe_lookWhenUp_49 S.2.2 Q v0 v2 v3 w0 w1 y2 y3 σ) :
    W p l e { frames := 4, cells := 0, slots := 0, locals := 108 } s m args below meth c H locs 0 0 (MQ below (rs_Qv G Bm S Q) args s 0 0 (rs_A Bm)) (F0 m 49 ls [.int y3, .int y2, .ref (Bm + w1), .ref (Bm + w0)]) := by
  have hx := C.1
  have hb := C.2.1
  unfold B_Pe_lookWhenUp_49 at hF
  refine lv_aload_n hx hb d_Pe_lookWhenUp_49 rfl (lv_at hl 0 rfl) ?_
  refine rs_getI C hH h_v0 fk_6_1 tw_257 d_Pe_lookWhenUp_50 ?_
  refine rs_ci (rs_runV C hH hT hl (J_Up_faultOf l h_w0 h_w1 hF) rc_Up_faultOf tw_726 tw_727 tw_728 h_w0 ⟨rfl, by decide, by decide⟩ rfl ⟨⟨rfl, rfl⟩, by decide, by decide, by decide⟩ (Nat.le_of_ble_eq_true rfl) rfl d_Pe_lookWhenUp_53) hS (fun x52 σ51 H locs hH hT hS hF => ?_)
  refine lv_istore hx hb d_Pe_lookWhenUp_56 hl (by decide) (lv' := [(4, .int x52), (0, .ref (Bm + v0)), (2, .ref (Bm + v2)), (3, .ref (Bm + v3))]) rfl (fun ls hl => ?_)
  refine lv_iload hx hb d_Pe_lookWhenUp_58 (lv_at hl 0 rfl) ?_
  refine lv_if_eq hx hb d_Pe_lookWhenUp_60 (tgt := 73) rfl (fun hc => ?_) (fun hc => ?_)
  · replace hF := hF.1 hc
    refine lv_aload_n hx hb d_Pe_lookWhenUp_73 rfl (lv_at hl 2 rfl) ?_
    refine lv_aload_n hx hb d_Pe_lookWhenUp_74 rfl (lv_at hl 3 rfl) ?_
    refine rs_ci (rs_runV C hH hT hl (J_Up_countKnown l h_v2 h_v3 hF) rc_Up_countKnown tw_779 tw_780 tw_781 h_v2 ⟨rfl, by decide, by decide⟩ rfl ⟨⟨rfl, rfl⟩, by decide, by decide, by decide⟩ (Nat.le_of_ble_eq_true rfl) rfl d_Pe_lookWhenUp_75) hS (fun x54 σ53 H locs hH hT hS hF => ?_)
    refine lv_bipush hx hb d_Pe_lookWhenUp_78 kb_12 ?_
    refine lv_icmp_le hx hb d_Pe_lookWhenUp_80 (tgt := 93) rfl (fun hc => ?_) (fun hc => ?_)
    · replace hF := hF.1 hc
      refine lv_aload_n hx hb d_Pe_lookWhenUp_93 rfl (lv_at hl 1 rfl) ?_
      refine lv_aload_n hx hb d_Pe_lookWhenUp_94 rfl (lv_at hl 2 rfl) ?_
      refine lv_aload_n hx hb d_Pe_lookWhenUp_95 rfl (lv_at hl 3 rfl) ?_
      refine rs_cv (rs_runV C hH hT hl (J_Pe_takeIn l h_v0 h_v2 h_v3 hF) rc_Pe_takeIn tw_788 tw_790 ts_32 h_v0 ⟨rfl, by decide, by decide⟩ rfl ⟨⟨rfl, rfl⟩, by decide, by decide, by decide⟩ (Nat.le_of_ble_eq_true rfl) rfl d_Pe_lookWhenUp_96) hS (fun σ55 H locs hH hT hS hF => ?_)
      exact rs_vret C hH hT hS hF d_Pe_lookWhenUp_99
    · replace hF := hF.2 hc
      refine lv_aload_n hx hb d_Pe_lookWhenUp_83 rfl (lv_at hl 1 rfl) ?_
      refine lv_bipush hx hb d_Pe_lookWhenUp_84 kb_6 ?_
      refine lv_iconst hx hb d_Pe_lookWhenUp_86 ki_1 ?_
      refine rs_cv (rs_runV C hH hT hl (J_Pe_end l h_v0 hF) rc_Pe_end tw_347 tw_348 tw_349 h_v0 ⟨rfl, by decide, by decide⟩ rfl ⟨⟨rfl, rfl⟩, by decide, by decide, by decide⟩ (Nat.le_of_ble_eq_true rfl) rfl d_Pe_lookWhenUp_87) hS (fun σ55 H locs hH hT hS hF => ?_)
      refine lv_goto hx hb d_Pe_lookWhenUp_90 (tgt := 99) rfl ?_
      exact rs_vret C hH hT hS hF d_Pe_lookWhenUp_99
  · replace hF := hF.2 hc
    refine lv_aload_n hx hb d_Pe_lookWhenUp_63 rfl (lv_at hl 1 rfl) ?_
    refine lv_iconst hx hb d_Pe_lookWhenUp_64 ki_3 ?_
    refine lv_iload hx hb d_Pe_lookWhenUp_65 (lv_at hl 0 rfl) ?_
    refine rs_cv (rs_runV C hH hT hl (J_Pe_end l h_v0 hF) rc_Pe_end tw_347 tw_348 tw_349 h_v0 ⟨rfl, by decide, by decide⟩ rfl ⟨⟨rfl, rfl⟩, by decide, by decide, by decide⟩ (Nat.le_of_ble_eq_true rfl) rfl d_Pe_lookWhenUp_67) hS (fun σ53 H locs hH hT hS hF => ?_)
    refine lv_goto hx hb d_Pe_lookWhenUp_70 (tgt := 99) rfl ?_
    exact rs_vret C hH hT hS hF d_Pe_lookWhenUp_99
abbrev y_Pe_lookWhenUp : MethodName := ({ cls := "RouteSpeaker$Peer", name := "lookWhenUp", desc := "(ILRouteSpeaker$Update;LRouteSpeaker$Prefixes;)V" } : Jvm.MethodName)
theorem rc_Pe_lookWhenUp : rs_Cal y_Pe_lookWhenUp prog_6_method_19_code 5 none 3 := ⟨tw_725, tw_7, by decide, by decide, by decide +kernel⟩
set_option maxRecDepth 20000 in
theorem J_Pe_lookWhenUp (l : Launch) {G : rs_G} {Bm : Nat} {S : rs_Shp} {v0 : Nat} {x1 : Int32} {v2 : Nat} {v3 : Nat} {σ : rs_Mem} {Q : rs_Mem → Prop} (h_v0 : rs_Ok S 6 v0) (h_v2 : rs_Ok S 10 v2) (h_v3 : rs_Ok S 7 v3) (hF : F_Pe_lookWhenUp S.2.2 v0 x1 v2 v3 σ Q) :
    Met l y_Pe_lookWhenUp (rs_ws y_Pe_lookWhenUp prog_6_method_19_code 5 none) { frames := 4, cells := 0, slots := 0, locals := 108 } (rs_P G Bm S σ [.ref (Bm + v0), .int x1, .ref (Bm + v2), .ref (Bm + v3)]) (rs_Qv G Bm S Q) 0 0 (rs_A Bm) := by
  refine rs_met (own := "RouteSpeaker$Peer") (by decide) rfl (Nat.le_of_ble_eq_true rfl) (fun p e s m below meth c ls C hl hH hT hS => ?_)
  replace hl : lv_has ls 5 [(0, .ref (Bm + v0)), (1, .int x1), (2, .ref (Bm + v2)), (3, .ref (Bm + v3))] := hl
  have hx := C.1
  have hb := C.2.1
  unfold F_Pe_lookWhenUp at hF
  refine lv_iload_n hx hb d_Pe_lookWhenUp_0 rfl (lv_at hl 1 rfl) ?_
  refine lv_iconst hx hb d_Pe_lookWhenUp_1 ki_1 ?_
  refine lv_icmp_ne hx hb d_Pe_lookWhenUp_2 (tgt := 12) rfl (fun hc => ?_) (fun hc => ?_)
  · replace hF := hF.1 hc
    refine lv_aload_n hx hb d_Pe_lookWhenUp_12 rfl (lv_at hl 0 rfl) ?_
    refine lv_aload_n hx hb d_Pe_lookWhenUp_13 rfl (lv_at hl 0 rfl) ?_
    refine rs_getI C hH h_v0 fk_6_9 tw_272 d_Pe_lookWhenUp_14 ?_
    refine rs_putI C hH hT hS h_v0 fk_6_7 rfl tw_268 d_Pe_lookWhenUp_17 (fun σ51 H locs eσ51 hH hT hS => ?_)
    replace hF := hF σ51 eσ51
    refine lv_iload_n hx hb d_Pe_lookWhenUp_20 rfl (lv_at hl 1 rfl) ?_
    refine lv_iconst hx hb d_Pe_lookWhenUp_21 ki_2 ?_
    refine lv_icmp_eq hx hb d_Pe_lookWhenUp_22 (tgt := 26) rfl (fun hc => ?_) (fun hc => ?_)
    · replace hF := hF.1 hc
      refine lv_aload_n hx hb d_Pe_lookWhenUp_26 rfl (lv_at hl 2 rfl) ?_
      refine lv_aload_n hx hb d_Pe_lookWhenUp_27 rfl (lv_at hl 0 rfl) ?_
      refine rs_getR C hH hT h_v0 fk_6_12 tw_278 d_Pe_lookWhenUp_28 (fun h52 => ?_)
      refine lv_aload_n hx hb d_Pe_lookWhenUp_31 rfl (lv_at hl 0 rfl) ?_
      refine rs_getR C hH hT h_v0 fk_6_12 tw_278 d_Pe_lookWhenUp_32 (fun h53 => ?_)
      refine lv_iconst hx hb d_Pe_lookWhenUp_35 ki_0 ?_
      obtain ⟨g54, hF⟩ := hF
      refine rs_iald C hH h53 g54 d_Pe_lookWhenUp_36 ?_
      refine lv_aload_n hx hb d_Pe_lookWhenUp_37 rfl (lv_at hl 0 rfl) ?_
      refine rs_getI C hH h_v0 fk_6_0 tw_256 d_Pe_lookWhenUp_38 ?_
      refine lv_if_ne hx hb d_Pe_lookWhenUp_41 (tgt := 48) rfl (fun hc => ?_) (fun hc => ?_)
      · replace hF := hF.1 hc
        refine lv_iconst hx hb d_Pe_lookWhenUp_48 ki_0 ?_
        exact JB_Pe_lookWhenUp_49 C v0 v2 v3 v2 (rs_R σ51 v0 12) (rs_I σ51 (rs_R σ51 v0 12) (0 : Int32).toNatClampNeg) (0 : Int32) σ51 _ _ _ h_v0 h_v2 h_v3 h_v2 h52 hH hT hS (lv_sub hl [0, 2, 3] rfl) hF
      · replace hF := hF.2 hc
        refine lv_iconst hx hb d_Pe_lookWhenUp_44 ki_1 ?_
        refine lv_goto hx hb d_Pe_lookWhenUp_45 (tgt := 49) rfl ?_
        exact JB_Pe_lookWhenUp_49 C v0 v2 v3 v2 (rs_R σ51 v0 12) (rs_I σ51 (rs_R σ51 v0 12) (0 : Int32).toNatClampNeg) (1 : Int32) σ51 _ _ _ h_v0 h_v2 h_v3 h_v2 h52 hH hT hS (lv_sub hl [0, 2, 3] rfl) hF
    · replace hF := hF.2 hc
      exact rs_vret C hH hT hS hF d_Pe_lookWhenUp_25
  · replace hF := hF.2 hc
    refine lv_aload_n hx hb d_Pe_lookWhenUp_5 rfl (lv_at hl 0 rfl) ?_
    refine lv_iconst hx hb d_Pe_lookWhenUp_6 ki_5 ?_
    refine lv_iconst hx hb d_Pe_lookWhenUp_7 ki_3 ?_
    refine rs_cv (rs_runV C hH hT hl (J_Pe_end l h_v0 hF) rc_Pe_end tw_347 tw_348 tw_349 h_v0 ⟨rfl, by decide, by decide⟩ rfl ⟨⟨rfl, rfl⟩, by decide, by decide, by decide⟩ (Nat.le_of_ble_eq_true rfl) rfl d_Pe_lookWhenUp_8) hS (fun σ51 H locs hH hT hS hF => ?_)
    exact rs_vret C hH hT hS hF d_Pe_lookWhenUp_11
/-! RouteSpeaker$Peer.lookAtMessage(LRouteSpeaker$Update;LRouteSpeaker$Prefixes;)V -/
theorem d_Pe_lookAtMessage_0 : decode prog_6_method_8_code 0 = .ok (.aload_n 0, 1) := by decide +kernel
theorem d_Pe_lookAtMessage_1 : decode prog_6_method_8_code 1 = .ok (.getfield 22, 3) := by decide +kernel
theorem d_Pe_lookAtMessage_4 : decode prog_6_method_8_code 4 = .ok (.iconst 0, 1) := by decide +kernel
theorem d_Pe_lookAtMessage_5 : decode prog_6_method_8_code 5 = .ok (.iaload, 1) := by decide +kernel
theorem d_Pe_lookAtMessage_6 : decode prog_6_method_8_code 6 = .ok (.istore_n 3, 1) := by decide +kernel
theorem d_Pe_lookAtMessage_7 : decode prog_6_method_8_code 7 = .ok (.aload_n 0, 1) := by decide +kernel
theorem d_Pe_lookAtMessage_8 : decode prog_6_method_8_code 8 = .ok (.getfield 22, 3) := by decide +kernel
theorem d_Pe_lookAtMessage_11 : decode prog_6_method_8_code 11 = .ok (.iconst 1, 1) := by decide +kernel
theorem d_Pe_lookAtMessage_12 : decode prog_6_method_8_code 12 = .ok (.iaload, 1) := by decide +kernel
theorem d_Pe_lookAtMessage_13 : decode prog_6_method_8_code 13 = .ok (.istore 4, 2) := by decide +kernel
theorem d_Pe_lookAtMessage_15 : decode prog_6_method_8_code 15 = .ok (.aload_n 0, 1) := by decide +kernel
theorem d_Pe_lookAtMessage_16 : decode prog_6_method_8_code 16 = .ok (.iconst 0, 1) := by decide +kernel
theorem d_Pe_lookAtMessage_17 : decode prog_6_method_8_code 17 = .ok (.putfield 71, 3) := by decide +kernel
theorem d_Pe_lookAtMessage_20 : decode prog_6_method_8_code 20 = .ok (.iload_n 3, 1) := by decide +kernel
theorem d_Pe_lookAtMessage_21 : decode prog_6_method_8_code 21 = .ok (.iconst 2, 1) := by decide +kernel
theorem d_Pe_lookAtMessage_22 : decode prog_6_method_8_code 22 = .ok (.if_icmp .lt (9), 3) := by decide +kernel
theorem d_Pe_lookAtMessage_25 : decode prog_6_method_8_code 25 = .ok (.iload_n 3, 1) := by decide +kernel
theorem d_Pe_lookAtMessage_26 : decode prog_6_method_8_code 26 = .ok (.bipush (60), 2) := by decide +kernel
theorem d_Pe_lookAtMessage_28 : decode prog_6_method_8_code 28 = .ok (.if_icmp .le (12), 3) := by decide +kernel
theorem d_Pe_lookAtMessage_31 : decode prog_6_method_8_code 31 = .ok (.aload_n 0, 1) := by decide +kernel
theorem d_Pe_lookAtMessage_32 : decode prog_6_method_8_code 32 = .ok (.iconst 1, 1) := by decide +kernel
theorem d_Pe_lookAtMessage_33 : decode prog_6_method_8_code 33 = .ok (.iconst 2, 1) := by decide +kernel
theorem d_Pe_lookAtMessage_34 : decode prog_6_method_8_code 34 = .ok (.invokevirtual 74, 3) := by decide +kernel
theorem d_Pe_lookAtMessage_37 : decode prog_6_method_8_code 37 = .ok (.goto (97), 3) := by decide +kernel
theorem d_Pe_lookAtMessage_40 : decode prog_6_method_8_code 40 = .ok (.iload 4, 2) := by decide +kernel
theorem d_Pe_lookAtMessage_42 : decode prog_6_method_8_code 42 = .ok (.iconst 1, 1) := by decide +kernel
theorem d_Pe_lookAtMessage_43 : decode prog_6_method_8_code 43 = .ok (.if_icmp .lt (9), 3) := by decide +kernel
theorem d_Pe_lookAtMessage_46 : decode prog_6_method_8_code 46 = .ok (.iload 4, 2) := by decide +kernel
theorem d_Pe_lookAtMessage_48 : decode prog_6_method_8_code 48 = .ok (.iconst 4, 1) := by decide +kernel
theorem d_Pe_lookAtMessage_49 : decode prog_6_method_8_code 49 = .ok (.if_icmp .le (12), 3) := by decide +kernel
theorem d_Pe_lookAtMessage_52 : decode prog_6_method_8_code 52 = .ok (.aload_n 0, 1) := by decide +kernel
theorem d_Pe_lookAtMessage_53 : decode prog_6_method_8_code 53 = .ok (.iconst 1, 1) := by decide +kernel
theorem d_Pe_lookAtMessage_54 : decode prog_6_method_8_code 54 = .ok (.iconst 3, 1) := by decide +kernel
theorem d_Pe_lookAtMessage_55 : decode prog_6_method_8_code 55 = .ok (.invokevirtual 74, 3) := by decide +kernel
theorem d_Pe_lookAtMessage_58 : decode prog_6_method_8_code 58 = .ok (.goto (76), 3) := by decide +kernel
theorem d_Pe_lookAtMessage_61 : decode prog_6_method_8_code 61 = .ok (.iload 4, 2) := by decide +kernel
theorem d_Pe_lookAtMessage_63 : decode prog_6_method_8_code 63 = .ok (.iload_n 3, 1) := by decide +kernel
theorem d_Pe_lookAtMessage_64 : decode prog_6_method_8_code 64 = .ok (.invokestatic 78, 3) := by decide +kernel
theorem d_Pe_lookAtMessage_67 : decode prog_6_method_8_code 67 = .ok (.ifCond .ne (12), 3) := by decide +kernel
theorem d_Pe_lookAtMessage_70 : decode prog_6_method_8_code 70 = .ok (.aload_n 0, 1) := by decide +kernel
theorem d_Pe_lookAtMessage_71 : decode prog_6_method_8_code 71 = .ok (.iconst 1, 1) := by decide +kernel
theorem d_Pe_lookAtMessage_72 : decode prog_6_method_8_code 72 = .ok (.iconst 2, 1) := by decide +kernel
theorem d_Pe_lookAtMessage_73 : decode prog_6_method_8_code 73 = .ok (.invokevirtual 74, 3) := by decide +kernel
theorem d_Pe_lookAtMessage_76 : decode prog_6_method_8_code 76 = .ok (.goto (58), 3) := by decide +kernel
theorem d_Pe_lookAtMessage_79 : decode prog_6_method_8_code 79 = .ok (.iload 4, 2) := by decide +kernel
theorem d_Pe_lookAtMessage_81 : decode prog_6_method_8_code 81 = .ok (.iconst 3, 1) := by decide +kernel
theorem d_Pe_lookAtMessage_82 : decode prog_6_method_8_code 82 = .ok (.if_icmp .ne (10), 3) := by decide +kernel
theorem d_Pe_lookAtMessage_85 : decode prog_6_method_8_code 85 = .ok (.aload_n 0, 1) := by decide +kernel
theorem d_Pe_lookAtMessage_86 : decode prog_6_method_8_code 86 = .ok (.invokevirtual 68, 3) := by decide +kernel
theorem d_Pe_lookAtMessage_89 : decode prog_6_method_8_code 89 = .ok (.goto (45), 3) := by decide +kernel
theorem d_Pe_lookAtMessage_92 : decode prog_6_method_8_code 92 = .ok (.aload_n 0, 1) := by decide +kernel
theorem d_Pe_lookAtMessage_93 : decode prog_6_method_8_code 93 = .ok (.getfield 51, 3) := by decide +kernel
theorem d_Pe_lookAtMessage_96 : decode prog_6_method_8_code 96 = .ok (.iconst 1, 1) := by decide +kernel
theorem d_Pe_lookAtMessage_97 : decode prog_6_method_8_code 97 = .ok (.if_icmp .ne (12), 3) := by decide +kernel
theorem d_Pe_lookAtMessage_100 : decode prog_6_method_8_code 100 = .ok (.aload_n 0, 1) := by decide +kernel
theorem d_Pe_lookAtMessage_101 : decode prog_6_method_8_code 101 = .ok (.iload 4, 2) := by decide +kernel
theorem d_Pe_lookAtMessage_103 : decode prog_6_method_8_code 103 = .ok (.invokevirtual 82, 3) := by decide +kernel
theorem d_Pe_lookAtMessage_106 : decode prog_6_method_8_code 106 = .ok (.goto (28), 3) := by decide +kernel
theorem d_Pe_lookAtMessage_109 : decode prog_6_method_8_code 109 = .ok (.aload_n 0, 1) := by decide +kernel
theorem d_Pe_lookAtMessage_110 : decode prog_6_method_8_code 110 = .ok (.getfield 51, 3) := by decide +kernel
theorem d_Pe_lookAtMessage_113 : decode prog_6_method_8_code 113 = .ok (.iconst 2, 1) := by decide +kernel
theorem d_Pe_lookAtMessage_114 : decode prog_6_method_8_code 114 = .ok (.if_icmp .ne (12), 3) := by decide +kernel
theorem d_Pe_lookAtMessage_117 : decode prog_6_method_8_code 117 = .ok (.aload_n 0, 1) := by decide +kernel
theorem d_Pe_lookAtMessage_118 : decode prog_6_method_8_code 118 = .ok (.iload 4, 2) := by decide +kernel
theorem d_Pe_lookAtMessage_120 : decode prog_6_method_8_code 120 = .ok (.invokevirtual 86, 3) := by decide +kernel
theorem d_Pe_lookAtMessage_123 : decode prog_6_method_8_code 123 = .ok (.goto (11), 3) := by decide +kernel
theorem d_Pe_lookAtMessage_126 : decode prog_6_method_8_code 126 = .ok (.aload_n 0, 1) := by decide +kernel
theorem d_Pe_lookAtMessage_127 : decode prog_6_method_8_code 127 = .ok (.iload 4, 2) := by decide +kernel
theorem d_Pe_lookAtMessage_129 : decode prog_6_method_8_code 129 = .ok (.aload_n 1, 1) := by decide +kernel
theorem d_Pe_lookAtMessage_130 : decode prog_6_method_8_code 130 = .ok (.aload_n 2, 1) := by decide +kernel
theorem d_Pe_lookAtMessage_131 : decode prog_6_method_8_code 131 = .ok (.invokevirtual 89, 3) := by decide +kernel
theorem d_Pe_lookAtMessage_134 : decode prog_6_method_8_code 134 = .ok (.return_, 1) := by decide +kernel
def B_Pe_lookAtMessage_31 (N : Nat → Nat) (Q : rs_Mem → Prop) (v0 : Nat) (σ : rs_Mem) : Prop :=
  (F_Pe_end N v0 (1 : Int32) (2 : Int32) σ (fun σ51 => (Q σ51)))
def B_Pe_lookAtMessage_52 (N : Nat → Nat) (Q : rs_Mem → Prop) (v0 : Nat) (σ : rs_Mem) : Prop :=
  (F_Pe_end N v0 (1 : Int32) (3 : Int32) σ (fun σ51 => (Q σ51)))
def F_Pe_lookAtMessage (N : Nat → Nat) (v0 : Nat) (v1 : Nat) (v2 : Nat) (σ : rs_Mem) (Q : rs_Mem → Prop) : Prop :=
  (vp_in (0 : Int32) (N (rs_R σ v0 12)) ∧ (∀ x53 : Int32, x53 = (rs_I σ (rs_R σ v0 12) (0 : Int32).toNatClampNeg) → (vp_in (1 : Int32) (N (rs_R σ v0 12)) ∧ (∀ x56 : Int32, x56 = (rs_I σ (rs_R σ v0 12) (1 : Int32).toNatClampNeg) → (∀ σ57 : rs_Mem, σ57 = rs_sI σ v0 11 (0 : Int32) → ((x53 < (2 : Int32) → (B_Pe_lookAtMessage_31 N Q v0 σ57)) ∧ (¬ (x53 < (2 : Int32)) → ((x53 ≤ (60 : Int32) → ((x56 < (1 : Int32) → (B_Pe_lookAtMessage_52 N Q v0 σ57)) ∧ (¬ (x56 < (1 : Int32)) → ((x56 ≤ (4 : Int32) → (F_Pe_isSizeOf N x56 x53 σ57 (fun x59 σ58 => ((¬ (x59 = 0) → ((¬ (x56 = (3 : Int32)) → ((¬ ((rs_I σ58 v0 6) = (1 : Int32)) → ((¬ ((rs_I σ58 v0 6) = (2 : Int32)) → (F_Pe_lookWhenUp N v0 x56 v1 v2 σ58 (fun σ60 => (Q σ60)))) ∧ ((rs_I σ58 v0 6) = (2 : Int32) → (F_Pe_lookWhenAgreed N v0 x56 σ58 (fun σ60 => (Q σ60)))))) ∧ ((rs_I σ58 v0 6) = (1 : Int32) → (F_Pe_lookWhenSent N v0 x56 σ58 (fun σ60 => (Q σ60)))))) ∧ (x56 = (3 : Int32) → (F_Pe_close N v0 σ58 (fun σ60 => (Q σ60)))))) ∧ (x59 = 0 → (F_Pe_end N v0 (1 : Int32) (2 : Int32) σ58 (fun σ60 => (Q σ60)))))))) ∧ (¬ (x56 ≤ (4 : Int32)) → (B_Pe_lookAtMessage_52 N Q v0 σ57)))))) ∧ (¬ (x53 ≤ (60 : Int32)) → (B_Pe_lookAtMessage_31 N Q v0 σ57))))))))))
set_option maxRecDepth 20000 in
theorem JB_Pe_lookAtMessage_31 {p : Program} {l : Launch} {e : Env} {s : State} {m : MethodId} {args : Array Value} {below : List Frame} {meth : Method} {c : Code} {G : rs_G} {Bm : Nat} {S : rs_Shp} {Q : rs_Mem → Prop} (C : rs_C "RouteSpeaker$Peer" prog_6_method_8_code 5 none G p s m meth c args) (v0 : Nat) (σ : rs_Mem) (H : Heap) (locs : List Loc) (ls : Array Slot) (h_v0 : rs_Ok S 6 v0) (hH : rs_H G Bm S σ H) (hT : rs_T S σ) (hS : va_S (rs_A Bm) s.heap H locs) (hl : lv_has ls 5 [(0, .ref (Bm + v0))]) (hF : B_Pe_lookAtMessage_31 S.2.2 Q v0 σ) :
    W p l e { frames := 5, cells := 0, slots := 0, locals := 132 } s m args below meth c H locs 0 0 (MQ below (rs_Qv G Bm S Q) args s 0 0 (rs_A Bm)) (F0 m 31 ls []) := by
  have hx := C.1
  have hb := C.2.1
  unfold B_Pe_lookAtMessage_31 at hF
  refine lv_aload_n hx hb d_Pe_lookAtMessage_31 rfl (lv_at hl 0 rfl) ?_
  refine lv_iconst hx hb d_Pe_lookAtMessage_32 ki_1 ?_
  refine lv_iconst hx hb d_Pe_lookAtMessage_33 ki_2 ?_
  refine rs_cv (rs_runV C hH hT hl (J_Pe_end l h_v0 hF) rc_Pe_end tw_347 tw_348 tw_349 h_v0 ⟨rfl, by decide, by decide⟩ rfl ⟨⟨rfl, rfl⟩, by decide, by decide, by decide⟩ (Nat.le_of_ble_eq_true rfl) rfl d_Pe_lookAtMessage_34) hS (fun σ51 H locs hH hT hS hF => ?_)
  refine lv_goto hx hb d_Pe_lookAtMessage_37 (tgt := 134) rfl ?_
  exact rs_vret C hH hT hS hF d_Pe_lookAtMessage_134
set_option maxRecDepth 20000 in
theorem JB_Pe_lookAtMessage_52 {p : Program} {l : Launch} {e : Env} {s : State} {m : MethodId} {args : Array Value} {below : List Frame} {meth : Method} {c : Code} {G : rs_G} {Bm : Nat} {S : rs_Shp} {Q : rs_Mem → Prop} (C : rs_C "RouteSpeaker$Peer" prog_6_method_8_code 5 none G p s m meth c args) (v0 : Nat) (σ : rs_Mem) (H : Heap) (locs : List Loc) (ls : Array Slot) (h_v0 : rs_Ok S 6 v0) (hH : rs_H G Bm S σ H) (hT : rs_T S σ) (hS : va_S (rs_A Bm) s.heap H locs) (hl : lv_has ls 5 [(0, .ref (Bm + v0))]) (hF : B_Pe_lookAtMessage_52 S.2.2 Q v0 σ) :
    W p l e { frames := 5, cells := 0, slots := 0, locals := 132 } s m args below meth c H locs 0 0 (MQ below (rs_Qv G Bm S Q) args s 0 0 (rs_A Bm)) (F0 m 52 ls []) := by
  have hx := C.1
  have hb := C.2.1
  unfold B_Pe_lookAtMessage_52 at hF
  refine lv_aload_n hx hb d_Pe_lookAtMessage_52 rfl (lv_at hl 0 rfl) ?_
  refine lv_iconst hx hb d_Pe_lookAtMessage_53 ki_1 ?_
  refine lv_iconst hx hb d_Pe_lookAtMessage_54 ki_3 ?_
  refine rs_cv (rs_runV C hH hT hl (J_Pe_end l h_v0 hF) rc_Pe_end tw_347 tw_348 tw_349 h_v0 ⟨rfl, by decide, by decide⟩ rfl ⟨⟨rfl, rfl⟩, by decide, by decide, by decide⟩ (Nat.le_of_ble_eq_true rfl) rfl d_Pe_lookAtMessage_55) hS (fun σ51 H locs hH hT hS hF => ?_)
  refine lv_goto hx hb d_Pe_lookAtMessage_58 (tgt := 134) rfl ?_
  exact rs_vret C hH hT hS hF d_Pe_lookAtMessage_134
abbrev y_Pe_lookAtMessage : MethodName := ({ cls := "RouteSpeaker$Peer", name := "lookAtMessage", desc := "(LRouteSpeaker$Update;LRouteSpeaker$Prefixes;)V" } : Jvm.MethodName)
theorem rc_Pe_lookAtMessage : rs_Cal y_Pe_lookAtMessage prog_6_method_8_code 5 none 2 := ⟨tw_706, tw_7, by decide, by decide, by decide +kernel⟩
set_option maxRecDepth 20000 in
theorem J_Pe_lookAtMessage (l : Launch) {G : rs_G} {Bm : Nat} {S : rs_Shp} {v0 : Nat} {v1 : Nat} {v2 : Nat} {σ : rs_Mem} {Q : rs_Mem → Prop} (h_v0 : rs_Ok S 6 v0) (h_v1 : rs_Ok S 10 v1) (h_v2 : rs_Ok S 7 v2) (hF : F_Pe_lookAtMessage S.2.2 v0 v1 v2 σ Q) :
    Met l y_Pe_lookAtMessage (rs_ws y_Pe_lookAtMessage prog_6_method_8_code 5 none) { frames := 5, cells := 0, slots := 0, locals := 132 } (rs_P G Bm S σ [.ref (Bm + v0), .ref (Bm + v1), .ref (Bm + v2)]) (rs_Qv G Bm S Q) 0 0 (rs_A Bm) := by
  refine rs_met (own := "RouteSpeaker$Peer") (by decide) rfl (Nat.le_of_ble_eq_true rfl) (fun p e s m below meth c ls C hl hH hT hS => ?_)
  replace hl : lv_has ls 5 [(0, .ref (Bm + v0)), (1, .ref (Bm + v1)), (2, .ref (Bm + v2))] := hl
  have hx := C.1
  have hb := C.2.1
  unfold F_Pe_lookAtMessage at hF
  refine lv_aload_n hx hb d_Pe_lookAtMessage_0 rfl (lv_at hl 0 rfl) ?_
  refine rs_getR C hH hT h_v0 fk_6_12 tw_278 d_Pe_lookAtMessage_1 (fun h51 => ?_)
  refine lv_iconst hx hb d_Pe_lookAtMessage_4 ki_0 ?_
  obtain ⟨g52, hF⟩ := hF
  refine rs_iald C hH h51 g52 d_Pe_lookAtMessage_5 ?_
  refine lv_topi (fun x53 ex53 => ?_)
  replace hF := hF x53 ex53
  refine lv_istore_n hx hb d_Pe_lookAtMessage_6 rfl hl (by decide) (lv' := [(3, .int x53), (0, .ref (Bm + v0)), (1, .ref (Bm + v1)), (2, .ref (Bm + v2))]) rfl (fun ls hl => ?_)
  refine lv_aload_n hx hb d_Pe_lookAtMessage_7 rfl (lv_at hl 1 rfl) ?_
  refine rs_getR C hH hT h_v0 fk_6_12 tw_278 d_Pe_lookAtMessage_8 (fun h54 => ?_)
  refine lv_iconst hx hb d_Pe_lookAtMessage_11 ki_1 ?_
  obtain ⟨g55, hF⟩ := hF
  refine rs_iald C hH h54 g55 d_Pe_lookAtMessage_12 ?_
  refine lv_topi (fun x56 ex56 => ?_)
  replace hF := hF x56 ex56
  refine lv_istore hx hb d_Pe_lookAtMessage_13 hl (by decide) (lv' := [(4, .int x56), (3, .int x53), (0, .ref (Bm + v0)), (1, .ref (Bm + v1)), (2, .ref (Bm + v2))]) rfl (fun ls hl => ?_)
  refine lv_aload_n hx hb d_Pe_lookAtMessage_15 rfl (lv_at hl 2 rfl) ?_
  refine lv_iconst hx hb d_Pe_lookAtMessage_16 ki_0 ?_
  refine rs_putI C hH hT hS h_v0 fk_6_11 rfl tw_276 d_Pe_lookAtMessage_17 (fun σ57 H locs eσ57 hH hT hS => ?_)
  replace hF := hF σ57 eσ57
  refine lv_iload_n hx hb d_Pe_lookAtMessage_20 rfl (lv_at hl 1 rfl) ?_
  refine lv_iconst hx hb d_Pe_lookAtMessage_21 ki_2 ?_
  refine lv_icmp_lt hx hb d_Pe_lookAtMessage_22 (tgt := 31) rfl (fun hc => ?_) (fun hc => ?_)
  · replace hF := hF.1 hc
    exact JB_Pe_lookAtMessage_31 C v0 σ57 _ _ _ h_v0 hH hT hS (lv_sub hl [2] rfl) hF
  · replace hF := hF.2 hc
    refine lv_iload_n hx hb d_Pe_lookAtMessage_25 rfl (lv_at hl 1 rfl) ?_
    refine lv_bipush hx hb d_Pe_lookAtMessage_26 kb_60 ?_
    refine lv_icmp_le hx hb d_Pe_lookAtMessage_28 (tgt := 40) rfl (fun hc => ?_) (fun hc => ?_)
    · replace hF := hF.1 hc
      refine lv_iload hx hb d_Pe_lookAtMessage_40 (lv_at hl 0 rfl) ?_
      refine lv_iconst hx hb d_Pe_lookAtMessage_42 ki_1 ?_
      refine lv_icmp_lt hx hb d_Pe_lookAtMessage_43 (tgt := 52) rfl (fun hc => ?_) (fun hc => ?_)
      · replace hF := hF.1 hc
        exact JB_Pe_lookAtMessage_52 C v0 σ57 _ _ _ h_v0 hH hT hS (lv_sub hl [2] rfl) hF
      · replace hF := hF.2 hc
        refine lv_iload hx hb d_Pe_lookAtMessage_46 (lv_at hl 0 rfl) ?_
        refine lv_iconst hx hb d_Pe_lookAtMessage_48 ki_4 ?_
        refine lv_icmp_le hx hb d_Pe_lookAtMessage_49 (tgt := 61) rfl (fun hc => ?_) (fun hc => ?_)
        · replace hF := hF.1 hc
          refine lv_iload hx hb d_Pe_lookAtMessage_61 (lv_at hl 0 rfl) ?_
          refine lv_iload_n hx hb d_Pe_lookAtMessage_63 rfl (lv_at hl 1 rfl) ?_
          refine rs_ci (rs_runS C hH hT hl (J_Pe_isSizeOf l hF) rc_Pe_isSizeOf tw_707 tw_708 rfl ⟨⟨rfl, rfl⟩, by decide, by decide, by decide⟩ (Nat.le_of_ble_eq_true rfl) rfl d_Pe_lookAtMessage_64) hS (fun x59 σ58 H locs hH hT hS hF => ?_)
          refine lv_if_ne hx hb d_Pe_lookAtMessage_67 (tgt := 79) rfl (fun hc => ?_) (fun hc => ?_)
          · replace hF := hF.1 hc
            refine lv_iload hx hb d_Pe_lookAtMessage_79 (lv_at hl 0 rfl) ?_
            refine lv_iconst hx hb d_Pe_lookAtMessage_81 ki_3 ?_
            refine lv_icmp_ne hx hb d_Pe_lookAtMessage_82 (tgt := 92) rfl (fun hc => ?_) (fun hc => ?_)
            · replace hF := hF.1 hc
              refine lv_aload_n hx hb d_Pe_lookAtMessage_92 rfl (lv_at hl 2 rfl) ?_
              refine rs_getI C hH h_v0 fk_6_6 tw_266 d_Pe_lookAtMessage_93 ?_
              refine lv_iconst hx hb d_Pe_lookAtMessage_96 ki_1 ?_
              refine lv_icmp_ne hx hb d_Pe_lookAtMessage_97 (tgt := 109) rfl (fun hc => ?_) (fun hc => ?_)
              · replace hF := hF.1 hc
                refine lv_aload_n hx hb d_Pe_lookAtMessage_109 rfl (lv_at hl 2 rfl) ?_
                refine rs_getI C hH h_v0 fk_6_6 tw_266 d_Pe_lookAtMessage_110 ?_
                refine lv_iconst hx hb d_Pe_lookAtMessage_113 ki_2 ?_
                refine lv_icmp_ne hx hb d_Pe_lookAtMessage_114 (tgt := 126) rfl (fun hc => ?_) (fun hc => ?_)
                · replace hF := hF.1 hc
                  refine lv_aload_n hx hb d_Pe_lookAtMessage_126 rfl (lv_at hl 2 rfl) ?_
                  refine lv_iload hx hb d_Pe_lookAtMessage_127 (lv_at hl 0 rfl) ?_
                  refine lv_aload_n hx hb d_Pe_lookAtMessage_129 rfl (lv_at hl 3 rfl) ?_
                  refine lv_aload_n hx hb d_Pe_lookAtMessage_130 rfl (lv_at hl 4 rfl) ?_
                  refine rs_cv (rs_runV C hH hT hl (J_Pe_lookWhenUp l h_v0 h_v1 h_v2 hF) rc_Pe_lookWhenUp tw_722 tw_724 ts_23 h_v0 ⟨rfl, by decide, by decide⟩ rfl ⟨⟨rfl, rfl⟩, by decide, by decide, by decide⟩ (Nat.le_of_ble_eq_true rfl) rfl d_Pe_lookAtMessage_131) hS (fun σ60 H locs hH hT hS hF => ?_)
                  exact rs_vret C hH hT hS hF d_Pe_lookAtMessage_134
                · replace hF := hF.2 hc
                  refine lv_aload_n hx hb d_Pe_lookAtMessage_117 rfl (lv_at hl 2 rfl) ?_
                  refine lv_iload hx hb d_Pe_lookAtMessage_118 (lv_at hl 0 rfl) ?_
                  refine rs_cv (rs_runV C hH hT hl (J_Pe_lookWhenAgreed l h_v0 hF) rc_Pe_lookWhenAgreed tw_718 tw_720 ts_22 h_v0 ⟨rfl, by decide, by decide⟩ rfl ⟨⟨rfl, rfl⟩, by decide, by decide, by decide⟩ (Nat.le_of_ble_eq_true rfl) rfl d_Pe_lookAtMessage_120) hS (fun σ60 H locs hH hT hS hF => ?_)
                  refine lv_goto hx hb d_Pe_lookAtMessage_123 (tgt := 134) rfl ?_
                  exact rs_vret C hH hT hS hF d_Pe_lookAtMessage_134
              · replace hF := hF.2 hc
                refine lv_aload_n hx hb d_Pe_lookAtMessage_100 rfl (lv_at hl 2 rfl) ?_
                refine lv_iload hx hb d_Pe_lookAtMessage_101 (lv_at hl 0 rfl) ?_
                refine rs_cv (rs_runV C hH hT hl (J_Pe_lookWhenSent l h_v0 hF) rc_Pe_lookWhenSent tw_710 tw_712 ts_21 h_v0 ⟨rfl, by decide, by decide⟩ rfl ⟨⟨rfl, rfl⟩, by decide, by decide, by decide⟩ (Nat.le_of_ble_eq_true rfl) rfl d_Pe_lookAtMessage_103) hS (fun σ60 H locs hH hT hS hF => ?_)
                refine lv_goto hx hb d_Pe_lookAtMessage_106 (tgt := 134) rfl ?_
                exact rs_vret C hH hT hS hF d_Pe_lookAtMessage_134
            · replace hF := hF.2 hc
              refine lv_aload_n hx hb d_Pe_lookAtMessage_85 rfl (lv_at hl 2 rfl) ?_
              refine rs_cv (rs_runV C hH hT hl (J_Pe_close l h_v0 hF) rc_Pe_close tw_359 tw_361 ts_1 h_v0 ⟨rfl, by decide, by decide⟩ rfl ⟨⟨rfl, rfl⟩, by decide, by decide, by decide⟩ (Nat.le_of_ble_eq_true rfl) rfl d_Pe_lookAtMessage_86) hS (fun σ60 H locs hH hT hS hF => ?_)
              refine lv_goto hx hb d_Pe_lookAtMessage_89 (tgt := 134) rfl ?_
              exact rs_vret C hH hT hS hF d_Pe_lookAtMessage_134
          · replace hF := hF.2 hc
            refine lv_aload_n hx hb d_Pe_lookAtMessage_70 rfl (lv_at hl 2 rfl) ?_
            refine lv_iconst hx hb d_Pe_lookAtMessage_71 ki_1 ?_
            refine lv_iconst hx hb d_Pe_lookAtMessage_72 ki_2 ?_
            refine rs_cv (rs_runV C hH hT hl (J_Pe_end l h_v0 hF) rc_Pe_end tw_347 tw_348 tw_349 h_v0 ⟨rfl, by decide, by decide⟩ rfl ⟨⟨rfl, rfl⟩, by decide, by decide, by decide⟩ (Nat.le_of_ble_eq_true rfl) rfl d_Pe_lookAtMessage_73) hS (fun σ60 H locs hH hT hS hF => ?_)
            refine lv_goto hx hb d_Pe_lookAtMessage_76 (tgt := 134) rfl ?_
            exact rs_vret C hH hT hS hF d_Pe_lookAtMessage_134
        · replace hF := hF.2 hc
          exact JB_Pe_lookAtMessage_52 C v0 σ57 _ _ _ h_v0 hH hT hS (lv_sub hl [2] rfl) hF
    · replace hF := hF.2 hc
      exact JB_Pe_lookAtMessage_31 C v0 σ57 _ _ _ h_v0 hH hT hS (lv_sub hl [2] rfl) hF
/-! RouteSpeaker$Outbox.pull()I -/
theorem d_Ob_pull_0 : decode prog_5_method_3_code 0 = .ok (.aload_n 0, 1) := by decide +kernel
theorem d_Ob_pull_1 : decode prog_5_method_3_code 1 = .ok (.getfield 15, 3) := by decide +kernel
theorem d_Ob_pull_4 : decode prog_5_method_3_code 4 = .ok (.ifCond .ne (5), 3) := by decide +kernel
theorem d_Ob_pull_7 : decode prog_5_method_3_code 7 = .ok (.iconst (-1), 1) := by decide +kernel
theorem d_Ob_pull_8 : decode prog_5_method_3_code 8 = .ok (.ireturn, 1) := by decide +kernel
theorem d_Ob_pull_9 : decode prog_5_method_3_code 9 = .ok (.aload_n 0, 1) := by decide +kernel
theorem d_Ob_pull_10 : decode prog_5_method_3_code 10 = .ok (.getfield 9, 3) := by decide +kernel
theorem d_Ob_pull_13 : decode prog_5_method_3_code 13 = .ok (.aload_n 0, 1) := by decide +kernel
theorem d_Ob_pull_14 : decode prog_5_method_3_code 14 = .ok (.getfield 19, 3) := by decide +kernel
theorem d_Ob_pull_17 : decode prog_5_method_3_code 17 = .ok (.iaload, 1) := by decide +kernel
theorem d_Ob_pull_18 : decode prog_5_method_3_code 18 = .ok (.istore_n 1, 1) := by decide +kernel
theorem d_Ob_pull_19 : decode prog_5_method_3_code 19 = .ok (.aload_n 0, 1) := by decide +kernel
theorem d_Ob_pull_20 : decode prog_5_method_3_code 20 = .ok (.aload_n 0, 1) := by decide +kernel
theorem d_Ob_pull_21 : decode prog_5_method_3_code 21 = .ok (.getfield 19, 3) := by decide +kernel
theorem d_Ob_pull_24 : decode prog_5_method_3_code 24 = .ok (.iconst 1, 1) := by decide +kernel
theorem d_Ob_pull_25 : decode prog_5_method_3_code 25 = .ok (.iadd, 1) := by decide +kernel
theorem d_Ob_pull_26 : decode prog_5_method_3_code 26 = .ok (.sipush (200), 3) := by decide +kernel
theorem d_Ob_pull_29 : decode prog_5_method_3_code 29 = .ok (.irem, 1) := by decide +kernel
theorem d_Ob_pull_30 : decode prog_5_method_3_code 30 = .ok (.putfield 19, 3) := by decide +kernel
theorem d_Ob_pull_33 : decode prog_5_method_3_code 33 = .ok (.aload_n 0, 1) := by decide +kernel
theorem d_Ob_pull_34 : decode prog_5_method_3_code 34 = .ok (.dup, 1) := by decide +kernel
theorem d_Ob_pull_35 : decode prog_5_method_3_code 35 = .ok (.getfield 15, 3) := by decide +kernel
theorem d_Ob_pull_38 : decode prog_5_method_3_code 38 = .ok (.iconst 1, 1) := by decide +kernel
theorem d_Ob_pull_39 : decode prog_5_method_3_code 39 = .ok (.isub, 1) := by decide +kernel
theorem d_Ob_pull_40 : decode prog_5_method_3_code 40 = .ok (.putfield 15, 3) := by decide +kernel
theorem d_Ob_pull_43 : decode prog_5_method_3_code 43 = .ok (.iload_n 1, 1) := by decide +kernel
theorem d_Ob_pull_44 : decode prog_5_method_3_code 44 = .ok (.ireturn, 1) := by decide +kernel
def F_Ob_pull (N : Nat → Nat) (v0 : Nat) (σ : rs_Mem) (Q : Int32 → rs_Mem → Prop) : Prop :=
  ((¬ ((rs_I σ v0 2) = 0) → (vp_in (rs_I σ v0 1) (N (rs_R σ v0 0)) ∧ (∀ x53 : Int32, x53 = (rs_I σ (rs_R σ v0 0) (rs_I σ v0 1).toNatClampNeg) → (∀ σ54 : rs_Mem, σ54 = rs_sI σ v0 1 (((rs_I σ v0 1) + (1 : Int32)) - ((rs_I σ v0 1) + (1 : Int32)) / (200 : Int32) * (200 : Int32)) → (∀ σ55 : rs_Mem, σ55 = rs_sI σ54 v0 2 ((rs_I σ54 v0 2) - (1 : Int32)) → (Q x53 σ55)))))) ∧ ((rs_I σ v0 2) = 0 → (Q (-1 : Int32) σ)))
abbrev y_Ob_pull : MethodName := ({ cls := "RouteSpeaker$Outbox", name := "pull", desc := "()I" } : Jvm.MethodName)
theorem rc_Ob_pull : rs_Cal y_Ob_pull prog_5_method_3_code 2 (some .int) 0 := ⟨tw_837, tw_9, by decide, by decide, by decide +kernel⟩
set_option maxRecDepth 20000 in
theorem J_Ob_pull (l : Launch) {G : rs_G} {Bm : Nat} {S : rs_Shp} {v0 : Nat} {σ : rs_Mem} {Q : Int32 → rs_Mem → Prop} (h_v0 : rs_Ok S 5 v0) (hF : F_Ob_pull S.2.2 v0 σ Q) :
    Met l y_Ob_pull (rs_ws y_Ob_pull prog_5_method_3_code 2 (some .int)) { frames := 0, cells := 0, slots := 0, locals := 0 } (rs_P G Bm S σ [.ref (Bm + v0)]) (rs_Qi G Bm S Q) 0 0 (rs_A Bm) := by
  refine rs_met (own := "RouteSpeaker$Outbox") (by decide) rfl (Nat.le_of_ble_eq_true rfl) (fun p e s m below meth c ls C hl hH hT hS => ?_)
  replace hl : lv_has ls 2 [(0, .ref (Bm + v0))] := hl
  have hx := C.1
  have hb := C.2.1
  unfold F_Ob_pull at hF
  refine lv_aload_n hx hb d_Ob_pull_0 rfl (lv_at hl 0 rfl) ?_
  refine rs_getI C hH h_v0 fk_5_2 tw_219 d_Ob_pull_1 ?_
  refine lv_if_ne hx hb d_Ob_pull_4 (tgt := 9) rfl (fun hc => ?_) (fun hc => ?_)
  · replace hF := hF.1 hc
    refine lv_aload_n hx hb d_Ob_pull_9 rfl (lv_at hl 0 rfl) ?_
    refine rs_getR C hH hT h_v0 fk_5_0 tw_217 d_Ob_pull_10 (fun h51 => ?_)
    refine lv_aload_n hx hb d_Ob_pull_13 rfl (lv_at hl 0 rfl) ?_
    refine rs_getI C hH h_v0 fk_5_1 tw_218 d_Ob_pull_14 ?_
    obtain ⟨g52, hF⟩ := hF
    refine rs_iald C hH h51 g52 d_Ob_pull_17 ?_
    refine lv_topi (fun x53 ex53 => ?_)
    replace hF := hF x53 ex53
    refine lv_istore_n hx hb d_Ob_pull_18 rfl hl (by decide) (lv' := [(1, .int x53), (0, .ref (Bm + v0))]) rfl (fun ls hl => ?_)
    refine lv_aload_n hx hb d_Ob_pull_19 rfl (lv_at hl 1 rfl) ?_
    refine lv_aload_n hx hb d_Ob_pull_20 rfl (lv_at hl 1 rfl) ?_
    refine rs_getI C hH h_v0 fk_5_1 tw_218 d_Ob_pull_21 ?_
    refine lv_iconst hx hb d_Ob_pull_24 ki_1 ?_
    refine lv_iadd hx hb d_Ob_pull_25 ?_
    refine lv_sipush hx hb d_Ob_pull_26 ks_200 ?_
    refine lv_irem hx hb d_Ob_pull_29 (by decide) ?_
    refine rs_putI C hH hT hS h_v0 fk_5_1 rfl tw_218 d_Ob_pull_30 (fun σ54 H locs eσ54 hH hT hS => ?_)
    replace hF := hF σ54 eσ54
    refine lv_aload_n hx hb d_Ob_pull_33 rfl (lv_at hl 1 rfl) ?_
    refine lv_dup hx hb d_Ob_pull_34 rfl ?_
    refine rs_getI C hH h_v0 fk_5_2 tw_219 d_Ob_pull_35 ?_
    refine lv_iconst hx hb d_Ob_pull_38 ki_1 ?_
    refine lv_isub hx hb d_Ob_pull_39 ?_
    refine rs_putI C hH hT hS h_v0 fk_5_2 rfl tw_219 d_Ob_pull_40 (fun σ55 H locs eσ55 hH hT hS => ?_)
    replace hF := hF σ55 eσ55
    refine lv_iload_n hx hb d_Ob_pull_43 rfl (lv_at hl 0 rfl) ?_
    exact rs_iret C hH hT hS hF d_Ob_pull_44
  · replace hF := hF.2 hc
    refine lv_iconst hx hb d_Ob_pull_7 ki_m1 ?_
    exact rs_iret C hH hT hS hF d_Ob_pull_8
/-! RouteSpeaker$Peer.passTime()V -/
theorem d_Pe_passTime_0 : decode prog_6_method_9_code 0 = .ok (.aload_n 0, 1) := by decide +kernel
theorem d_Pe_passTime_1 : decode prog_6_method_9_code 1 = .ok (.getfield 51, 3) := by decide +kernel
theorem d_Pe_passTime_4 : decode prog_6_method_9_code 4 = .ok (.ifCond .eq (18), 3) := by decide +kernel
theorem d_Pe_passTime_7 : decode prog_6_method_9_code 7 = .ok (.aload_n 0, 1) := by decide +kernel
theorem d_Pe_passTime_8 : decode prog_6_method_9_code 8 = .ok (.getfield 51, 3) := by decide +kernel
theorem d_Pe_passTime_11 : decode prog_6_method_9_code 11 = .ok (.iconst 1, 1) := by decide +kernel
theorem d_Pe_passTime_12 : decode prog_6_method_9_code 12 = .ok (.if_icmp .eq (11), 3) := by decide +kernel
theorem d_Pe_passTime_15 : decode prog_6_method_9_code 15 = .ok (.aload_n 0, 1) := by decide +kernel
theorem d_Pe_passTime_16 : decode prog_6_method_9_code 16 = .ok (.getfield 93, 3) := by decide +kernel
theorem d_Pe_passTime_19 : decode prog_6_method_9_code 19 = .ok (.ifCond .ne (4), 3) := by decide +kernel
theorem d_Pe_passTime_22 : decode prog_6_method_9_code 22 = .ok (.return_, 1) := by decide +kernel
theorem d_Pe_passTime_23 : decode prog_6_method_9_code 23 = .ok (.aload_n 0, 1) := by decide +kernel
theorem d_Pe_passTime_24 : decode prog_6_method_9_code 24 = .ok (.dup, 1) := by decide +kernel
theorem d_Pe_passTime_25 : decode prog_6_method_9_code 25 = .ok (.getfield 61, 3) := by decide +kernel
theorem d_Pe_passTime_28 : decode prog_6_method_9_code 28 = .ok (.iconst 1, 1) := by decide +kernel
theorem d_Pe_passTime_29 : decode prog_6_method_9_code 29 = .ok (.isub, 1) := by decide +kernel
theorem d_Pe_passTime_30 : decode prog_6_method_9_code 30 = .ok (.putfield 61, 3) := by decide +kernel
theorem d_Pe_passTime_33 : decode prog_6_method_9_code 33 = .ok (.aload_n 0, 1) := by decide +kernel
theorem d_Pe_passTime_34 : decode prog_6_method_9_code 34 = .ok (.getfield 61, 3) := by decide +kernel
theorem d_Pe_passTime_37 : decode prog_6_method_9_code 37 = .ok (.ifCond .gt (12), 3) := by decide +kernel
theorem d_Pe_passTime_40 : decode prog_6_method_9_code 40 = .ok (.aload_n 0, 1) := by decide +kernel
theorem d_Pe_passTime_41 : decode prog_6_method_9_code 41 = .ok (.iconst 4, 1) := by decide +kernel
theorem d_Pe_passTime_42 : decode prog_6_method_9_code 42 = .ok (.iconst 0, 1) := by decide +kernel
theorem d_Pe_passTime_43 : decode prog_6_method_9_code 43 = .ok (.invokevirtual 74, 3) := by decide +kernel
theorem d_Pe_passTime_46 : decode prog_6_method_9_code 46 = .ok (.goto (42), 3) := by decide +kernel
theorem d_Pe_passTime_49 : decode prog_6_method_9_code 49 = .ok (.aload_n 0, 1) := by decide +kernel
theorem d_Pe_passTime_50 : decode prog_6_method_9_code 50 = .ok (.getfield 51, 3) := by decide +kernel
theorem d_Pe_passTime_53 : decode prog_6_method_9_code 53 = .ok (.iconst 3, 1) := by decide +kernel
theorem d_Pe_passTime_54 : decode prog_6_method_9_code 54 = .ok (.if_icmp .ne (34), 3) := by decide +kernel
theorem d_Pe_passTime_57 : decode prog_6_method_9_code 57 = .ok (.aload_n 0, 1) := by decide +kernel
theorem d_Pe_passTime_58 : decode prog_6_method_9_code 58 = .ok (.dup, 1) := by decide +kernel
theorem d_Pe_passTime_59 : decode prog_6_method_9_code 59 = .ok (.getfield 96, 3) := by decide +kernel
theorem d_Pe_passTime_62 : decode prog_6_method_9_code 62 = .ok (.iconst 1, 1) := by decide +kernel
theorem d_Pe_passTime_63 : decode prog_6_method_9_code 63 = .ok (.isub, 1) := by decide +kernel
theorem d_Pe_passTime_64 : decode prog_6_method_9_code 64 = .ok (.putfield 96, 3) := by decide +kernel
theorem d_Pe_passTime_67 : decode prog_6_method_9_code 67 = .ok (.aload_n 0, 1) := by decide +kernel
theorem d_Pe_passTime_68 : decode prog_6_method_9_code 68 = .ok (.getfield 96, 3) := by decide +kernel
theorem d_Pe_passTime_71 : decode prog_6_method_9_code 71 = .ok (.ifCond .gt (17), 3) := by decide +kernel
theorem d_Pe_passTime_74 : decode prog_6_method_9_code 74 = .ok (.aload_n 0, 1) := by decide +kernel
theorem d_Pe_passTime_75 : decode prog_6_method_9_code 75 = .ok (.aload_n 0, 1) := by decide +kernel
theorem d_Pe_passTime_76 : decode prog_6_method_9_code 76 = .ok (.getfield 93, 3) := by decide +kernel
theorem d_Pe_passTime_79 : decode prog_6_method_9_code 79 = .ok (.iconst 3, 1) := by decide +kernel
theorem d_Pe_passTime_80 : decode prog_6_method_9_code 80 = .ok (.idiv, 1) := by decide +kernel
theorem d_Pe_passTime_81 : decode prog_6_method_9_code 81 = .ok (.putfield 96, 3) := by decide +kernel
theorem d_Pe_passTime_84 : decode prog_6_method_9_code 84 = .ok (.aload_n 0, 1) := by decide +kernel
theorem d_Pe_passTime_85 : decode prog_6_method_9_code 85 = .ok (.invokevirtual 99, 3) := by decide +kernel
theorem d_Pe_passTime_88 : decode prog_6_method_9_code 88 = .ok (.return_, 1) := by decide +kernel
def B_Pe_passTime_23 (N : Nat → Nat) (Q : rs_Mem → Prop) (v0 : Nat) (σ : rs_Mem) : Prop :=
  (∀ σ51 : rs_Mem, σ51 = rs_sI σ v0 7 ((rs_I σ v0 7) - (1 : Int32)) → ((0 < (rs_I σ51 v0 7) → ((¬ ((rs_I σ51 v0 6) = (3 : Int32)) → (Q σ51)) ∧ ((rs_I σ51 v0 6) = (3 : Int32) → (∀ σ52 : rs_Mem, σ52 = rs_sI σ51 v0 8 ((rs_I σ51 v0 8) - (1 : Int32)) → ((0 < (rs_I σ52 v0 8) → (Q σ52)) ∧ (¬ (0 < (rs_I σ52 v0 8)) → (∀ σ53 : rs_Mem, σ53 = rs_sI σ52 v0 8 ((rs_I σ52 v0 9) / (3 : Int32)) → (F_Pe_sendKeepalive N v0 σ53 (fun σ54 => (Q σ54)))))))))) ∧ (¬ (0 < (rs_I σ51 v0 7)) → (F_Pe_end N v0 (4 : Int32) (0 : Int32) σ51 (fun σ52 => (Q σ52))))))
def F_Pe_passTime (N : Nat → Nat) (v0 : Nat) (σ : rs_Mem) (Q : rs_Mem → Prop) : Prop :=
  (((rs_I σ v0 6) = 0 → (Q σ)) ∧ (¬ ((rs_I σ v0 6) = 0) → (((rs_I σ v0 6) = (1 : Int32) → (B_Pe_passTime_23 N Q v0 σ)) ∧ (¬ ((rs_I σ v0 6) = (1 : Int32)) → ((¬ ((rs_I σ v0 9) = 0) → (B_Pe_passTime_23 N Q v0 σ)) ∧ ((rs_I σ v0 9) = 0 → (Q σ)))))))
set_option maxRecDepth 20000 in
theorem JB_Pe_passTime_23 {p : Program} {l : Launch} {e : Env} {s : State} {m : MethodId} {args : Array Value} {below : List Frame} {meth : Method} {c : Code} {G : rs_G} {Bm : Nat} {S : rs_Shp} {Q : rs_Mem → Prop} (C : rs_C "RouteSpeaker$Peer" prog_6_method_9_code 1 none G p s m meth c args) (v0 : Nat) (σ : rs_Mem) (H : Heap) (locs : List Loc) (ls : Array Slot) (h_v0 : rs_Ok S 6 v0) (hH : rs_H G Bm S σ H) (hT : rs_T S σ) (hS : va_S (rs_A Bm) s.heap H locs) (hl : lv_has ls 1 [(0, .ref (Bm + v0))]) (hF : B_Pe_passTime_23 S.2.2 Q v0 σ) :
    W p l e { frames := 3, cells := 0, slots := 0, locals := 68 } s m args below meth c H locs 0 0 (MQ below (rs_Qv G Bm S Q) args s 0 0 (rs_A Bm)) (F0 m 23 ls []) := by
  have hx := C.1
  have hb := C.2.1
  unfold B_Pe_passTime_23 at hF
  refine lv_aload_n hx hb d_Pe_passTime_23 rfl (lv_at hl 0 rfl) ?_
  refine lv_dup hx hb d_Pe_passTime_24 rfl ?_
  refine rs_getI C hH h_v0 fk_6_7 tw_268 d_Pe_passTime_25 ?_
  refine lv_iconst hx hb d_Pe_passTime_28 ki_1 ?_
  refine lv_isub hx hb d_Pe_passTime_29 ?_
  refine rs_putI C hH hT hS h_v0 fk_6_7 rfl tw_268 d_Pe_passTime_30 (fun σ51 H locs eσ51 hH hT hS => ?_)
  replace hF := hF σ51 eσ51
  refine lv_aload_n hx hb d_Pe_passTime_33 rfl (lv_at hl 0 rfl) ?_
  refine rs_getI C hH h_v0 fk_6_7 tw_268 d_Pe_passTime_34 ?_
  refine lv_if_gt hx hb d_Pe_passTime_37 (tgt := 49) rfl (fun hc => ?_) (fun hc => ?_)
  · replace hF := hF.1 hc
    refine lv_aload_n hx hb d_Pe_passTime_49 rfl (lv_at hl 0 rfl) ?_
    refine rs_getI C hH h_v0 fk_6_6 tw_266 d_Pe_passTime_50 ?_
    refine lv_iconst hx hb d_Pe_passTime_53 ki_3 ?_
    refine lv_icmp_ne hx hb d_Pe_passTime_54 (tgt := 88) rfl (fun hc => ?_) (fun hc => ?_)
    · replace hF := hF.1 hc
      exact rs_vret C hH hT hS hF d_Pe_passTime_88
    · replace hF := hF.2 hc
      refine lv_aload_n hx hb d_Pe_passTime_57 rfl (lv_at hl 0 rfl) ?_
      refine lv_dup hx hb d_Pe_passTime_58 rfl ?_
      refine rs_getI C hH h_v0 fk_6_8 tw_270 d_Pe_passTime_59 ?_
      refine lv_iconst hx hb d_Pe_passTime_62 ki_1 ?_
      refine lv_isub hx hb d_Pe_passTime_63 ?_
      refine rs_putI C hH hT hS h_v0 fk_6_8 rfl tw_270 d_Pe_passTime_64 (fun σ52 H locs eσ52 hH hT hS => ?_)
      replace hF := hF σ52 eσ52
      refine lv_aload_n hx hb d_Pe_passTime_67 rfl (lv_at hl 0 rfl) ?_
      refine rs_getI C hH h_v0 fk_6_8 tw_270 d_Pe_passTime_68 ?_
      refine lv_if_gt hx hb d_Pe_passTime_71 (tgt := 88) rfl (fun hc => ?_) (fun hc => ?_)
      · replace hF := hF.1 hc
        exact rs_vret C hH hT hS hF d_Pe_passTime_88
      · replace hF := hF.2 hc
        refine lv_aload_n hx hb d_Pe_passTime_74 rfl (lv_at hl 0 rfl) ?_
        refine lv_aload_n hx hb d_Pe_passTime_75 rfl (lv_at hl 0 rfl) ?_
        refine rs_getI C hH h_v0 fk_6_9 tw_272 d_Pe_passTime_76 ?_
        refine lv_iconst hx hb d_Pe_passTime_79 ki_3 ?_
        refine lv_idiv hx hb d_Pe_passTime_80 (by decide) ?_
        refine rs_putI C hH hT hS h_v0 fk_6_8 rfl tw_270 d_Pe_passTime_81 (fun σ53 H locs eσ53 hH hT hS => ?_)
        replace hF := hF σ53 eσ53
        refine lv_aload_n hx hb d_Pe_passTime_84 rfl (lv_at hl 0 rfl) ?_
        refine rs_cv (rs_runV C hH hT hl (J_Pe_sendKeepalive l h_v0 hF) rc_Pe_sendKeepalive tw_363 tw_365 ts_2 h_v0 ⟨rfl, by decide, by decide⟩ rfl ⟨⟨rfl, rfl⟩, by decide, by decide, by decide⟩ (Nat.le_of_ble_eq_true rfl) rfl d_Pe_passTime_85) hS (fun σ54 H locs hH hT hS hF => ?_)
        exact rs_vret C hH hT hS hF d_Pe_passTime_88
  · replace hF := hF.2 hc
    refine lv_aload_n hx hb d_Pe_passTime_40 rfl (lv_at hl 0 rfl) ?_
    refine lv_iconst hx hb d_Pe_passTime_41 ki_4 ?_
    refine lv_iconst hx hb d_Pe_passTime_42 ki_0 ?_
    refine rs_cv (rs_runV C hH hT hl (J_Pe_end l h_v0 hF) rc_Pe_end tw_347 tw_348 tw_349 h_v0 ⟨rfl, by decide, by decide⟩ rfl ⟨⟨rfl, rfl⟩, by decide, by decide, by decide⟩ (Nat.le_of_ble_eq_true rfl) rfl d_Pe_passTime_43) hS (fun σ52 H locs hH hT hS hF => ?_)
    refine lv_goto hx hb d_Pe_passTime_46 (tgt := 88) rfl ?_
    exact rs_vret C hH hT hS hF d_Pe_passTime_88
abbrev y_Pe_passTime : MethodName := ({ cls := "RouteSpeaker$Peer", name := "passTime", desc := "()V" } : Jvm.MethodName)
theorem rc_Pe_passTime : rs_Cal y_Pe_passTime prog_6_method_9_code 1 none 0 := ⟨tw_346, tw_7, by decide, by decide, by decide +kernel⟩
set_option maxRecDepth 20000 in
theorem J_Pe_passTime (l : Launch) {G : rs_G} {Bm : Nat} {S : rs_Shp} {v0 : Nat} {σ : rs_Mem} {Q : rs_Mem → Prop} (h_v0 : rs_Ok S 6 v0) (hF : F_Pe_passTime S.2.2 v0 σ Q) :
    Met l y_Pe_passTime (rs_ws y_Pe_passTime prog_6_method_9_code 1 none) { frames := 3, cells := 0, slots := 0, locals := 68 } (rs_P G Bm S σ [.ref (Bm + v0)]) (rs_Qv G Bm S Q) 0 0 (rs_A Bm) := by
  refine rs_met (own := "RouteSpeaker$Peer") (by decide) rfl (Nat.le_of_ble_eq_true rfl) (fun p e s m below meth c ls C hl hH hT hS => ?_)
  replace hl : lv_has ls 1 [(0, .ref (Bm + v0))] := hl
  have hx := C.1
  have hb := C.2.1
  unfold F_Pe_passTime at hF
  refine lv_aload_n hx hb d_Pe_passTime_0 rfl (lv_at hl 0 rfl) ?_
  refine rs_getI C hH h_v0 fk_6_6 tw_266 d_Pe_passTime_1 ?_
  refine lv_if_eq hx hb d_Pe_passTime_4 (tgt := 22) rfl (fun hc => ?_) (fun hc => ?_)
  · replace hF := hF.1 hc
    exact rs_vret C hH hT hS hF d_Pe_passTime_22
  · replace hF := hF.2 hc
    refine lv_aload_n hx hb d_Pe_passTime_7 rfl (lv_at hl 0 rfl) ?_
    refine rs_getI C hH h_v0 fk_6_6 tw_266 d_Pe_passTime_8 ?_
    refine lv_iconst hx hb d_Pe_passTime_11 ki_1 ?_
    refine lv_icmp_eq hx hb d_Pe_passTime_12 (tgt := 23) rfl (fun hc => ?_) (fun hc => ?_)
    · replace hF := hF.1 hc
      exact JB_Pe_passTime_23 C v0 σ _ _ _ h_v0 hH hT hS (lv_sub hl [0] rfl) hF
    · replace hF := hF.2 hc
      refine lv_aload_n hx hb d_Pe_passTime_15 rfl (lv_at hl 0 rfl) ?_
      refine rs_getI C hH h_v0 fk_6_9 tw_272 d_Pe_passTime_16 ?_
      refine lv_if_ne hx hb d_Pe_passTime_19 (tgt := 23) rfl (fun hc => ?_) (fun hc => ?_)
      · replace hF := hF.1 hc
        exact JB_Pe_passTime_23 C v0 σ _ _ _ h_v0 hH hT hS (lv_sub hl [0] rfl) hF
      · replace hF := hF.2 hc
        exact rs_vret C hH hT hS hF d_Pe_passTime_22
/-! RouteSpeaker$Incoming.decay()V -/
theorem d_In_decay_0 : decode prog_3_method_6_code 0 = .ok (.iconst 0, 1) := by decide +kernel
theorem d_In_decay_1 : decode prog_3_method_6_code 1 = .ok (.istore_n 1, 1) := by decide +kernel
theorem d_In_decay_2 : decode prog_3_method_6_code 2 = .ok (.iload_n 1, 1) := by decide +kernel
theorem d_In_decay_3 : decode prog_3_method_6_code 3 = .ok (.bipush (12), 2) := by decide +kernel
theorem d_In_decay_5 : decode prog_3_method_6_code 5 = .ok (.if_icmp .ge (58), 3) := by decide +kernel
theorem d_In_decay_8 : decode prog_3_method_6_code 8 = .ok (.aload_n 0, 1) := by decide +kernel
theorem d_In_decay_9 : decode prog_3_method_6_code 9 = .ok (.getfield 24, 3) := by decide +kernel
theorem d_In_decay_12 : decode prog_3_method_6_code 12 = .ok (.iload_n 1, 1) := by decide +kernel
theorem d_In_decay_13 : decode prog_3_method_6_code 13 = .ok (.aload_n 0, 1) := by decide +kernel
theorem d_In_decay_14 : decode prog_3_method_6_code 14 = .ok (.getfield 24, 3) := by decide +kernel
theorem d_In_decay_17 : decode prog_3_method_6_code 17 = .ok (.iload_n 1, 1) := by decide +kernel
theorem d_In_decay_18 : decode prog_3_method_6_code 18 = .ok (.daload, 1) := by decide +kernel
theorem d_In_decay_19 : decode prog_3_method_6_code 19 = .ok (.ldc2_w 49, 3) := by decide +kernel
theorem d_In_decay_22 : decode prog_3_method_6_code 22 = .ok (.dmul, 1) := by decide +kernel
theorem d_In_decay_23 : decode prog_3_method_6_code 23 = .ok (.dastore, 1) := by decide +kernel
theorem d_In_decay_24 : decode prog_3_method_6_code 24 = .ok (.aload_n 0, 1) := by decide +kernel
theorem d_In_decay_25 : decode prog_3_method_6_code 25 = .ok (.getfield 17, 3) := by decide +kernel
theorem d_In_decay_28 : decode prog_3_method_6_code 28 = .ok (.iload_n 1, 1) := by decide +kernel
theorem d_In_decay_29 : decode prog_3_method_6_code 29 = .ok (.aload_n 0, 1) := by decide +kernel
theorem d_In_decay_30 : decode prog_3_method_6_code 30 = .ok (.getfield 17, 3) := by decide +kernel
theorem d_In_decay_33 : decode prog_3_method_6_code 33 = .ok (.iload_n 1, 1) := by decide +kernel
theorem d_In_decay_34 : decode prog_3_method_6_code 34 = .ok (.baload, 1) := by decide +kernel
theorem d_In_decay_35 : decode prog_3_method_6_code 35 = .ok (.ifCond .eq (20), 3) := by decide +kernel
theorem d_In_decay_38 : decode prog_3_method_6_code 38 = .ok (.aload_n 0, 1) := by decide +kernel
theorem d_In_decay_39 : decode prog_3_method_6_code 39 = .ok (.getfield 24, 3) := by decide +kernel
theorem d_In_decay_42 : decode prog_3_method_6_code 42 = .ok (.iload_n 1, 1) := by decide +kernel
theorem d_In_decay_43 : decode prog_3_method_6_code 43 = .ok (.daload, 1) := by decide +kernel
theorem d_In_decay_44 : decode prog_3_method_6_code 44 = .ok (.ldc2_w 51, 3) := by decide +kernel
theorem d_In_decay_47 : decode prog_3_method_6_code 47 = .ok (.dcmp .l, 1) := by decide +kernel
theorem d_In_decay_48 : decode prog_3_method_6_code 48 = .ok (.ifCond .lt (7), 3) := by decide +kernel
theorem d_In_decay_51 : decode prog_3_method_6_code 51 = .ok (.iconst 1, 1) := by decide +kernel
theorem d_In_decay_52 : decode prog_3_method_6_code 52 = .ok (.goto (4), 3) := by decide +kernel
theorem d_In_decay_55 : decode prog_3_method_6_code 55 = .ok (.iconst 0, 1) := by decide +kernel
theorem d_In_decay_56 : decode prog_3_method_6_code 56 = .ok (.bastore, 1) := by decide +kernel
theorem d_In_decay_57 : decode prog_3_method_6_code 57 = .ok (.iinc 1 (1), 3) := by decide +kernel
theorem d_In_decay_60 : decode prog_3_method_6_code 60 = .ok (.goto (-58), 3) := by decide +kernel
theorem d_In_decay_63 : decode prog_3_method_6_code 63 = .ok (.return_, 1) := by decide +kernel
def B_In_decay_55 (N : Nat → Nat) (K2 : Nat → Int32 → rs_Mem → Prop) (Q : rs_Mem → Prop) (v0 : Nat) (x1 : Int32) (w0 : Nat) (y1 : Int32) (σ : rs_Mem) : Prop :=
  (vp_in y1 (N w0) ∧ ∀ σ52 : rs_Mem, σ52 = rs_sI σ w0 y1.toNatClampNeg (0 : Int32) → (∀ x53 : Int32, x53 = x1 + (1 : Int32) → (K2 v0 x53 σ52)))
def G_In_decay_2 (N : Nat → Nat) (Q : rs_Mem → Prop) (K2 : Nat → Int32 → rs_Mem → Prop) (v0 : Nat) (x1 : Int32) (σ : rs_Mem) : Prop :=
  (((12 : Int32) ≤ x1 → (Q σ)) ∧ (¬ ((12 : Int32) ≤ x1) → (vp_in x1 (N (rs_R σ v0 3)) ∧ (vf_n64 (FP.dmul (rs_D σ (rs_R σ v0 3) x1.toNatClampNeg) (4606056518893174784 : UInt64)) ∧ (vp_in x1 (N (rs_R σ v0 3)) ∧ ∀ σ56 : rs_Mem, σ56 = rs_sD σ (rs_R σ v0 3) x1.toNatClampNeg (FP.dmul (rs_D σ (rs_R σ v0 3) x1.toNatClampNeg) (4606056518893174784 : UInt64)) → (vp_in x1 (N (rs_R σ56 v0 1)) ∧ (((rs_I σ56 (rs_R σ56 v0 1) x1.toNatClampNeg) = 0 → (B_In_decay_55 N K2 Q v0 x1 (rs_R σ56 v0 1) x1 σ56)) ∧ (¬ ((rs_I σ56 (rs_R σ56 v0 1) x1.toNatClampNeg) = 0) → (vp_in x1 (N (rs_R σ56 v0 3)) ∧ (((Op.cmpValue (FP.dcmp (rs_D σ56 (rs_R σ56 v0 3) x1.toNatClampNeg) (4649808285585637376 : UInt64)) .l) < 0 → (B_In_decay_55 N K2 Q v0 x1 (rs_R σ56 v0 1) x1 σ56)) ∧ (¬ ((Op.cmpValue (FP.dcmp (rs_D σ56 (rs_R σ56 v0 3) x1.toNatClampNeg) (4649808285585637376 : UInt64)) .l) < 0) → (vp_in x1 (N (rs_R σ56 v0 1)) ∧ ∀ σ63 : rs_Mem, σ63 = rs_sI σ56 (rs_R σ56 v0 1) x1.toNatClampNeg (1 : Int32) → (∀ x64 : Int32, x64 = x1 + (1 : Int32) → (K2 v0 x64 σ63))))))))))))))
noncomputable def L_In_decay_2 (N : Nat → Nat) (Q : rs_Mem → Prop) (n : Nat) : Nat → Int32 → rs_Mem → Prop := Nat.rec (motive := fun _ => Nat → Int32 → rs_Mem → Prop) (fun _ _ _ => False) (fun _ K => G_In_decay_2 N Q K) n
def F_In_decay (N : Nat → Nat) (v0 : Nat) (σ : rs_Mem) (Q : rs_Mem → Prop) : Prop :=
  (∃ n : Nat, L_In_decay_2 N Q n v0 (0 : Int32) σ)
set_option maxRecDepth 20000 in
theorem JB_In_decay_55 {p : Program} {l : Launch} {e : Env} {s : State} {m : MethodId} {args : Array Value} {below : List Frame} {meth : Method} {c : Code} {G : rs_G} {Bm : Nat} {S : rs_Shp} {K2 : Nat → Int32 → rs_Mem → Prop} {Q : rs_Mem → Prop} (C : rs_C "RouteSpeaker$Incoming" prog_3_method_6_code 2 none G p s m meth c args) (hK2 : ∀ (v0 : Nat) (x1 : Int32) (σ : rs_Mem) (H : Heap) (locs : List Loc) (ls : Array Slot), rs_Ok S 3 v0 → rs_H G Bm S σ H → rs_T S σ → va_S (rs_A Bm) s.heap H locs → lv_has ls 2 [(0, .ref (Bm + v0)), (1, .int x1)] → K2 v0 x1 σ → W p l e { frames := 0, cells := 0, slots := 0, locals := 0 } s m args below meth c H locs 0 0 (MQ below (rs_Qv G Bm S Q) args s 0 0 (rs_A Bm)) (F0 m 2 ls [])) (v0 : Nat) (x1 : Int32) (w0 : Nat) (y1 : Int32) (σ : rs_Mem) (H : Heap) (locs : List Loc) (ls : Array Slot) (h_v0 : rs_Ok S 3 v0) (h_w0 : rs_Ok S 21 w0) (hH : rs_H G Bm S σ H) (hT : rs_T S σ) (hS : va_S (rs_A Bm) s.heap H locs) (hl : lv_has ls 2 [(0, .ref (Bm + v0)), (1, .int x1)]) (hF : B_In_decay_55 S.2.2 K2 Q v0 x1 w0 y1 σ) :
    W p l e { frames := 0, cells := 0, slots := 0, locals := 0 } s m args below meth c H locs 0 0 (MQ below (rs_Qv G Bm S Q) args s 0 0 (rs_A Bm)) (F0 m 55 ls [.int y1, .ref (Bm + w0)]) := by
  have hx := C.1
  have hb := C.2.1
  unfold B_In_decay_55 at hF
  refine lv_iconst hx hb d_In_decay_55 ki_0 ?_
  obtain ⟨g51, hF⟩ := hF
  refine rs_zast C hH hT hS (by decide) h_w0 g51 d_In_decay_56 (fun σ52 H locs eσ52 hH hT hS => ?_)
  replace hF := hF σ52 eσ52
  obtain ⟨x53, ex53⟩ : ∃ z : Int32, z = x1 + (1 : Int32) := ⟨_, rfl⟩
  replace hF := hF x53 ex53
  refine lv_iinc hx hb d_In_decay_57 hl (k := 1) rfl (v := x53) (by rw [ki_1, ex53]) (by decide) (lv' := [(1, .int x53), (0, .ref (Bm + v0))]) rfl (fun ls hl => ?_)
  refine lv_goto hx hb d_In_decay_60 (tgt := 2) rfl ?_
  exact hK2 v0 x53 σ52 _ _ _ h_v0 hH hT hS (lv_sub hl [1, 0] rfl) hF
set_option maxRecDepth 20000 in
theorem JL_In_decay_2 {p : Program} {l : Launch} {e : Env} {s : State} {m : MethodId} {args : Array Value} {below : List Frame} {meth : Method} {c : Code} {G : rs_G} {Bm : Nat} {S : rs_Shp} {Q : rs_Mem → Prop} (C : rs_C "RouteSpeaker$Incoming" prog_3_method_6_code 2 none G p s m meth c args) : ∀ n : Nat, ∀ (v0 : Nat) (x1 : Int32) (σ : rs_Mem) (H : Heap) (locs : List Loc) (ls : Array Slot), rs_Ok S 3 v0 → rs_H G Bm S σ H → rs_T S σ → va_S (rs_A Bm) s.heap H locs → lv_has ls 2 [(0, .ref (Bm + v0)), (1, .int x1)] → (L_In_decay_2 S.2.2 Q n) v0 x1 σ → W p l e { frames := 0, cells := 0, slots := 0, locals := 0 } s m args below meth c H locs 0 0 (MQ below (rs_Qv G Bm S Q) args s 0 0 (rs_A Bm)) (F0 m 2 ls []) := by
  have hx := C.1
  have hb := C.2.1
  intro n
  induction n with
  | zero => intros; rename_i hF; exact hF.elim
  | succ n hK2 =>
    intro v0 x1 σ H locs ls h_v0 hH hT hS hl hF
    replace hF : G_In_decay_2 S.2.2 Q (L_In_decay_2 S.2.2 Q n) v0 x1 σ := hF
    unfold G_In_decay_2 at hF
    refine lv_iload_n hx hb d_In_decay_2 rfl (lv_at hl 1 rfl) ?_
    refine lv_bipush hx hb d_In_decay_3 kb_12 ?_
    refine lv_icmp_ge hx hb d_In_decay_5 (tgt := 63) rfl (fun hc => ?_) (fun hc => ?_)
    · replace hF := hF.1 hc
      exact rs_vret C hH hT hS hF d_In_decay_63
    · replace hF := hF.2 hc
      refine lv_aload_n hx hb d_In_decay_8 rfl (lv_at hl 0 rfl) ?_
      refine rs_getR C hH hT h_v0 fk_3_3 tw_243 d_In_decay_9 (fun h51 => ?_)
      refine lv_iload_n hx hb d_In_decay_12 rfl (lv_at hl 1 rfl) ?_
      refine lv_aload_n hx hb d_In_decay_13 rfl (lv_at hl 0 rfl) ?_
      refine rs_getR C hH hT h_v0 fk_3_3 tw_243 d_In_decay_14 (fun h52 => ?_)
      refine lv_iload_n hx hb d_In_decay_17 rfl (lv_at hl 1 rfl) ?_
      obtain ⟨g53, hF⟩ := hF
      refine rs_dald C hH h52 g53 d_In_decay_18 ?_
      refine lv_ldc2d hx hb C.2.2.2.2.1 (C.2.2.2.2.2.1 _ tw_371) d_In_decay_19 ?_
      obtain ⟨g54, hF⟩ := hF
      refine lv_dmul hx hb d_In_decay_22 g54 ?_
      obtain ⟨g55, hF⟩ := hF
      refine rs_dast C hH hT hS h51 g55 d_In_decay_23 (fun σ56 H locs eσ56 hH hT hS => ?_)
      replace hF := hF σ56 eσ56
      refine lv_aload_n hx hb d_In_decay_24 rfl (lv_at hl 0 rfl) ?_
      refine rs_getR C hH hT h_v0 fk_3_1 tw_239 d_In_decay_25 (fun h57 => ?_)
      refine lv_iload_n hx hb d_In_decay_28 rfl (lv_at hl 1 rfl) ?_
      refine lv_aload_n hx hb d_In_decay_29 rfl (lv_at hl 0 rfl) ?_
      refine rs_getR C hH hT h_v0 fk_3_1 tw_239 d_In_decay_30 (fun h58 => ?_)
      refine lv_iload_n hx hb d_In_decay_33 rfl (lv_at hl 1 rfl) ?_
      obtain ⟨g59, hF⟩ := hF
      refine rs_zald C hH h58 g59 d_In_decay_34 ?_
      refine lv_if_eq hx hb d_In_decay_35 (tgt := 55) rfl (fun hc => ?_) (fun hc => ?_)
      · replace hF := hF.1 hc
        exact JB_In_decay_55 C hK2 v0 x1 (rs_R σ56 v0 1) x1 σ56 _ _ _ h_v0 h57 hH hT hS (lv_sub hl [0, 1] rfl) hF
      · replace hF := hF.2 hc
        refine lv_aload_n hx hb d_In_decay_38 rfl (lv_at hl 0 rfl) ?_
        refine rs_getR C hH hT h_v0 fk_3_3 tw_243 d_In_decay_39 (fun h60 => ?_)
        refine lv_iload_n hx hb d_In_decay_42 rfl (lv_at hl 1 rfl) ?_
        obtain ⟨g61, hF⟩ := hF
        refine rs_dald C hH h60 g61 d_In_decay_43 ?_
        refine lv_ldc2d hx hb C.2.2.2.2.1 (C.2.2.2.2.2.1 _ tw_372) d_In_decay_44 ?_
        refine lv_dcmp hx hb d_In_decay_47 ?_
        refine lv_if_lt hx hb d_In_decay_48 (tgt := 55) rfl (fun hc => ?_) (fun hc => ?_)
        · replace hF := hF.1 hc
          exact JB_In_decay_55 C hK2 v0 x1 (rs_R σ56 v0 1) x1 σ56 _ _ _ h_v0 h57 hH hT hS (lv_sub hl [0, 1] rfl) hF
        · replace hF := hF.2 hc
          refine lv_iconst hx hb d_In_decay_51 ki_1 ?_
          refine lv_goto hx hb d_In_decay_52 (tgt := 56) rfl ?_
          obtain ⟨g62, hF⟩ := hF
          refine rs_zast C hH hT hS (by decide) h57 g62 d_In_decay_56 (fun σ63 H locs eσ63 hH hT hS => ?_)
          replace hF := hF σ63 eσ63
          obtain ⟨x64, ex64⟩ : ∃ z : Int32, z = x1 + (1 : Int32) := ⟨_, rfl⟩
          replace hF := hF x64 ex64
          refine lv_iinc hx hb d_In_decay_57 hl (k := 1) rfl (v := x64) (by rw [ki_1, ex64]) (by decide) (lv' := [(1, .int x64), (0, .ref (Bm + v0))]) rfl (fun ls hl => ?_)
          refine lv_goto hx hb d_In_decay_60 (tgt := 2) rfl ?_
          exact hK2 v0 x64 σ63 _ _ _ h_v0 hH hT hS (lv_sub hl [1, 0] rfl) hF
abbrev y_In_decay : MethodName := ({ cls := "RouteSpeaker$Incoming", name := "decay", desc := "()V" } : Jvm.MethodName)
theorem rc_In_decay : rs_Cal y_In_decay prog_3_method_6_code 2 none 0 := ⟨tw_370, tw_10, by decide, by decide, by decide +kernel⟩
set_option maxRecDepth 20000 in
theorem J_In_decay (l : Launch) {G : rs_G} {Bm : Nat} {S : rs_Shp} {v0 : Nat} {σ : rs_Mem} {Q : rs_Mem → Prop} (h_v0 : rs_Ok S 3 v0) (hF : F_In_decay S.2.2 v0 σ Q) :
    Met l y_In_decay (rs_ws y_In_decay prog_3_method_6_code 2 none) { frames := 0, cells := 0, slots := 0, locals := 0 } (rs_P G Bm S σ [.ref (Bm + v0)]) (rs_Qv G Bm S Q) 0 0 (rs_A Bm) := by
  refine rs_met (own := "RouteSpeaker$Incoming") (by decide) rfl (Nat.le_of_ble_eq_true rfl) (fun p e s m below meth c ls C hl hH hT hS => ?_)
  replace hl : lv_has ls 2 [(0, .ref (Bm + v0))] := hl
  have hx := C.1
  have hb := C.2.1
  unfold F_In_decay at hF
  refine lv_iconst hx hb d_In_decay_0 ki_0 ?_
  refine lv_istore_n hx hb d_In_decay_1 rfl hl (by decide) (lv' := [(1, .int (0 : Int32)), (0, .ref (Bm + v0))]) rfl (fun ls hl => ?_)
  obtain ⟨n, hF⟩ := hF
  exact JL_In_decay_2 C n v0 (0 : Int32) σ _ _ _ h_v0 hH hT hS (lv_sub hl [1, 0] rfl) hF
/-! RouteSpeaker.tick()I -/
theorem d_Sp_tick_0 : decode prog_1_method_12_code 0 = .ok (.iconst 0, 1) := by decide +kernel
theorem d_Sp_tick_1 : decode prog_1_method_12_code 1 = .ok (.istore_n 1, 1) := by decide +kernel
theorem d_Sp_tick_2 : decode prog_1_method_12_code 2 = .ok (.iload_n 1, 1) := by decide +kernel
theorem d_Sp_tick_3 : decode prog_1_method_12_code 3 = .ok (.iconst 4, 1) := by decide +kernel
theorem d_Sp_tick_4 : decode prog_1_method_12_code 4 = .ok (.if_icmp .ge (18), 3) := by decide +kernel
theorem d_Sp_tick_7 : decode prog_1_method_12_code 7 = .ok (.aload_n 0, 1) := by decide +kernel
theorem d_Sp_tick_8 : decode prog_1_method_12_code 8 = .ok (.getfield 18, 3) := by decide +kernel
theorem d_Sp_tick_11 : decode prog_1_method_12_code 11 = .ok (.iload_n 1, 1) := by decide +kernel
theorem d_Sp_tick_12 : decode prog_1_method_12_code 12 = .ok (.aaload, 1) := by decide +kernel
theorem d_Sp_tick_13 : decode prog_1_method_12_code 13 = .ok (.invokevirtual 147, 3) := by decide +kernel
theorem d_Sp_tick_16 : decode prog_1_method_12_code 16 = .ok (.iinc 1 (1), 3) := by decide +kernel
theorem d_Sp_tick_19 : decode prog_1_method_12_code 19 = .ok (.goto (-17), 3) := by decide +kernel
theorem d_Sp_tick_22 : decode prog_1_method_12_code 22 = .ok (.iconst 0, 1) := by decide +kernel
theorem d_Sp_tick_23 : decode prog_1_method_12_code 23 = .ok (.istore_n 1, 1) := by decide +kernel
theorem d_Sp_tick_24 : decode prog_1_method_12_code 24 = .ok (.iload_n 1, 1) := by decide +kernel
theorem d_Sp_tick_25 : decode prog_1_method_12_code 25 = .ok (.iconst 4, 1) := by decide +kernel
theorem d_Sp_tick_26 : decode prog_1_method_12_code 26 = .ok (.if_icmp .ge (21), 3) := by decide +kernel
theorem d_Sp_tick_29 : decode prog_1_method_12_code 29 = .ok (.aload_n 0, 1) := by decide +kernel
theorem d_Sp_tick_30 : decode prog_1_method_12_code 30 = .ok (.getfield 18, 3) := by decide +kernel
theorem d_Sp_tick_33 : decode prog_1_method_12_code 33 = .ok (.iload_n 1, 1) := by decide +kernel
theorem d_Sp_tick_34 : decode prog_1_method_12_code 34 = .ok (.aaload, 1) := by decide +kernel
theorem d_Sp_tick_35 : decode prog_1_method_12_code 35 = .ok (.getfield 150, 3) := by decide +kernel
theorem d_Sp_tick_38 : decode prog_1_method_12_code 38 = .ok (.invokevirtual 154, 3) := by decide +kernel
theorem d_Sp_tick_41 : decode prog_1_method_12_code 41 = .ok (.iinc 1 (1), 3) := by decide +kernel
theorem d_Sp_tick_44 : decode prog_1_method_12_code 44 = .ok (.goto (-20), 3) := by decide +kernel
theorem d_Sp_tick_47 : decode prog_1_method_12_code 47 = .ok (.aload_n 0, 1) := by decide +kernel
theorem d_Sp_tick_48 : decode prog_1_method_12_code 48 = .ok (.invokevirtual 94, 3) := by decide +kernel
theorem d_Sp_tick_51 : decode prog_1_method_12_code 51 = .ok (.iconst 0, 1) := by decide +kernel
theorem d_Sp_tick_52 : decode prog_1_method_12_code 52 = .ok (.istore_n 1, 1) := by decide +kernel
theorem d_Sp_tick_53 : decode prog_1_method_12_code 53 = .ok (.iconst 0, 1) := by decide +kernel
theorem d_Sp_tick_54 : decode prog_1_method_12_code 54 = .ok (.istore_n 2, 1) := by decide +kernel
theorem d_Sp_tick_55 : decode prog_1_method_12_code 55 = .ok (.iload_n 2, 1) := by decide +kernel
theorem d_Sp_tick_56 : decode prog_1_method_12_code 56 = .ok (.iconst 4, 1) := by decide +kernel
theorem d_Sp_tick_57 : decode prog_1_method_12_code 57 = .ok (.if_icmp .ge (29), 3) := by decide +kernel
theorem d_Sp_tick_60 : decode prog_1_method_12_code 60 = .ok (.iload_n 1, 1) := by decide +kernel
theorem d_Sp_tick_61 : decode prog_1_method_12_code 61 = .ok (.aload_n 0, 1) := by decide +kernel
theorem d_Sp_tick_62 : decode prog_1_method_12_code 62 = .ok (.getfield 18, 3) := by decide +kernel
theorem d_Sp_tick_65 : decode prog_1_method_12_code 65 = .ok (.iload_n 2, 1) := by decide +kernel
theorem d_Sp_tick_66 : decode prog_1_method_12_code 66 = .ok (.aaload, 1) := by decide +kernel
theorem d_Sp_tick_67 : decode prog_1_method_12_code 67 = .ok (.invokevirtual 159, 3) := by decide +kernel
theorem d_Sp_tick_70 : decode prog_1_method_12_code 70 = .ok (.ifCond .eq (7), 3) := by decide +kernel
theorem d_Sp_tick_73 : decode prog_1_method_12_code 73 = .ok (.iconst 1, 1) := by decide +kernel
theorem d_Sp_tick_74 : decode prog_1_method_12_code 74 = .ok (.goto (4), 3) := by decide +kernel
theorem d_Sp_tick_77 : decode prog_1_method_12_code 77 = .ok (.iconst 0, 1) := by decide +kernel
theorem d_Sp_tick_78 : decode prog_1_method_12_code 78 = .ok (.iadd, 1) := by decide +kernel
theorem d_Sp_tick_79 : decode prog_1_method_12_code 79 = .ok (.istore_n 1, 1) := by decide +kernel
theorem d_Sp_tick_80 : decode prog_1_method_12_code 80 = .ok (.iinc 2 (1), 3) := by decide +kernel
theorem d_Sp_tick_83 : decode prog_1_method_12_code 83 = .ok (.goto (-28), 3) := by decide +kernel
theorem d_Sp_tick_86 : decode prog_1_method_12_code 86 = .ok (.iload_n 1, 1) := by decide +kernel
theorem d_Sp_tick_87 : decode prog_1_method_12_code 87 = .ok (.ireturn, 1) := by decide +kernel
def B_Sp_tick_78 (N : Nat → Nat) (K55 : Nat → Int32 → Int32 → rs_Mem → Prop) (Q : Int32 → rs_Mem → Prop) (v0 : Nat) (x2 : Int32) (y0 : Int32) (y1 : Int32) (σ : rs_Mem) : Prop :=
  (∀ x51 : Int32, x51 = (y0 + y1) → (∀ x52 : Int32, x52 = x2 + (1 : Int32) → (K55 v0 x51 x52 σ)))
def G_Sp_tick_55 (N : Nat → Nat) (Q : Int32 → rs_Mem → Prop) (K55 : Nat → Int32 → Int32 → rs_Mem → Prop) (v0 : Nat) (x1 : Int32) (x2 : Int32) (σ : rs_Mem) : Prop :=
  (((4 : Int32) ≤ x2 → (Q x1 σ)) ∧ (¬ ((4 : Int32) ≤ x2) → (vp_in x2 (N (rs_R σ v0 1)) ∧ (F_Pe_isUp N (rs_R σ (rs_R σ v0 1) x2.toNatClampNeg) σ (fun x55 σ54 => ((x55 = 0 → (B_Sp_tick_78 N K55 Q v0 x2 x1 (0 : Int32) σ54)) ∧ (¬ (x55 = 0) → (B_Sp_tick_78 N K55 Q v0 x2 x1 (1 : Int32) σ54))))))))
noncomputable def L_Sp_tick_55 (N : Nat → Nat) (Q : Int32 → rs_Mem → Prop) (n : Nat) : Nat → Int32 → Int32 → rs_Mem → Prop := Nat.rec (motive := fun _ => Nat → Int32 → Int32 → rs_Mem → Prop) (fun _ _ _ _ => False) (fun _ K => G_Sp_tick_55 N Q K) n
def G_Sp_tick_24 (N : Nat → Nat) (Q : Int32 → rs_Mem → Prop) (K24 : Nat → Int32 → rs_Mem → Prop) (v0 : Nat) (x1 : Int32) (σ : rs_Mem) : Prop :=
  (((4 : Int32) ≤ x1 → (F_Sp_tellAll N v0 σ (fun σ51 => (∃ n : Nat, L_Sp_tick_55 N Q n v0 (0 : Int32) (0 : Int32) σ51)))) ∧ (¬ ((4 : Int32) ≤ x1) → (vp_in x1 (N (rs_R σ v0 1)) ∧ (F_In_decay N (rs_R σ (rs_R σ (rs_R σ v0 1) x1.toNatClampNeg) 15) σ (fun σ55 => (∀ x56 : Int32, x56 = x1 + (1 : Int32) → (K24 v0 x56 σ55)))))))
noncomputable def L_Sp_tick_24 (N : Nat → Nat) (Q : Int32 → rs_Mem → Prop) (n : Nat) : Nat → Int32 → rs_Mem → Prop := Nat.rec (motive := fun _ => Nat → Int32 → rs_Mem → Prop) (fun _ _ _ => False) (fun _ K => G_Sp_tick_24 N Q K) n
def G_Sp_tick_2 (N : Nat → Nat) (Q : Int32 → rs_Mem → Prop) (K2 : Nat → Int32 → rs_Mem → Prop) (v0 : Nat) (x1 : Int32) (σ : rs_Mem) : Prop :=
  (((4 : Int32) ≤ x1 → (∃ n : Nat, L_Sp_tick_24 N Q n v0 (0 : Int32) σ)) ∧ (¬ ((4 : Int32) ≤ x1) → (vp_in x1 (N (rs_R σ v0 1)) ∧ (F_Pe_passTime N (rs_R σ (rs_R σ v0 1) x1.toNatClampNeg) σ (fun σ54 => (∀ x55 : Int32, x55 = x1 + (1 : Int32) → (K2 v0 x55 σ54)))))))
noncomputable def L_Sp_tick_2 (N : Nat → Nat) (Q : Int32 → rs_Mem → Prop) (n : Nat) : Nat → Int32 → rs_Mem → Prop := Nat.rec (motive := fun _ => Nat → Int32 → rs_Mem → Prop) (fun _ _ _ => False) (fun _ K => G_Sp_tick_2 N Q K) n
def F_Sp_tick (N : Nat → Nat) (v0 : Nat) (σ : rs_Mem) (Q : Int32 → rs_Mem → Prop) : Prop :=
  (∃ n : Nat, L_Sp_tick_2 N Q n v0 (0 : Int32) σ)
set_option maxRecDepth 20000 in
theorem JB_Sp_tick_78 {p : Program} {l : Launch} {e : Env} {s : State} {m : MethodId} {args : Array Value} {below : List Frame} {meth : Method} {c : Code} {G : rs_G} {Bm : Nat} {S : rs_Shp} {K55 : Nat → Int32 → Int32 → rs_Mem → Prop} {Q : Int32 → rs_Mem → Prop} (C : rs_C "RouteSpeaker" prog_1_method_12_code 3 (some .int) G p s m meth c args) (hK55 : ∀ (v0 : Nat) (x1 : Int32) (x2 : Int32) (σ : rs_Mem) (H : Heap) (locs : List Loc) (ls : Array Slot), rs_Ok S 1 v0 → rs_H G Bm S σ H → rs_T S σ → va_S (rs_A Bm) s.heap H locs → lv_has ls 3 [(0, .ref (Bm + v0)), (1, .int x1), (2, .int x2)] → K55 v0 x1 x2 σ → W p l e { frames := 6, cells := 0, slots := 0, locals := 140 } s m args below meth c H locs 0 0 (MQ below (rs_Qi G Bm S Q) args s 0 0 (rs_A Bm)) (F0 m 55 ls [])) (v0 : Nat) (x2 : Int32) (y0 : Int32) (y1 : Int32) (σ : rs_Mem) (H : Heap) (locs : List Loc) (ls : Array Slot) (h_v0 : rs_Ok S 1 v0) (hH : rs_H G Bm S σ H) (hT : rs_T S σ) (hS : va_S (rs_A Bm) s.heap H locs) (hl : lv_has ls 3 [(0, .ref (Bm + v0)), (2, .int x2)]) (hF : B_Sp_tick_78 S.2.2 K55 Q v0 x2 y0 y1 σ) :
    W p l e { frames := 6, cells := 0, slots := 0, locals := 140 } s m args below meth c H locs 0 0 (MQ below (rs_Qi G Bm S Q) args s 0 0 (rs_A Bm)) (F0 m 78 ls [.int y1, .int y0]) := by
  have hx := C.1
  have hb := C.2.1
  unfold B_Sp_tick_78 at hF
  refine lv_iadd hx hb d_Sp_tick_78 ?_
  refine lv_topi (fun x51 ex51 => ?_)
  replace hF := hF x51 ex51
  refine lv_istore_n hx hb d_Sp_tick_79 rfl hl (by decide) (lv' := [(1, .int x51), (0, .ref (Bm + v0)), (2, .int x2)]) rfl (fun ls hl => ?_)
  obtain ⟨x52, ex52⟩ : ∃ z : Int32, z = x2 + (1 : Int32) := ⟨_, rfl⟩
  replace hF := hF x52 ex52
  refine lv_iinc hx hb d_Sp_tick_80 hl (k := 2) rfl (v := x52) (by rw [ki_1, ex52]) (by decide) (lv' := [(2, .int x52), (1, .int x51), (0, .ref (Bm + v0))]) rfl (fun ls hl => ?_)
  refine lv_goto hx hb d_Sp_tick_83 (tgt := 55) rfl ?_
  exact hK55 v0 x51 x52 σ _ _ _ h_v0 hH hT hS (lv_sub hl [2, 1, 0] rfl) hF
set_option maxRecDepth 20000 in
theorem JL_Sp_tick_55 {p : Program} {l : Launch} {e : Env} {s : State} {m : MethodId} {args : Array Value} {below : List Frame} {meth : Method} {c : Code} {G : rs_G} {Bm : Nat} {S : rs_Shp} {Q : Int32 → rs_Mem → Prop} (C : rs_C "RouteSpeaker" prog_1_method_12_code 3 (some .int) G p s m meth c args) : ∀ n : Nat, ∀ (v0 : Nat) (x1 : Int32) (x2 : Int32) (σ : rs_Mem) (H : Heap) (locs : List Loc) (ls : Array Slot), rs_Ok S 1 v0 → rs_H G Bm S σ H → rs_T S σ → va_S (rs_A Bm) s.heap H locs → lv_has ls 3 [(0, .ref (Bm + v0)), (1, .int x1), (2, .int x2)] → (L_Sp_tick_55 S.2.2 Q n) v0 x1 x2 σ → W p l e { frames := 6, cells := 0, slots := 0, locals := 140 } s m args below meth c H locs 0 0 (MQ below (rs_Qi G Bm S Q) args s 0 0 (rs_A Bm)) (F0 m 55 ls []) := by
  have hx := C.1
  have hb := C.2.1
  intro n
  induction n with
  | zero => intros; rename_i hF; exact hF.elim
  | succ n hK55 =>
    intro v0 x1 x2 σ H locs ls h_v0 hH hT hS hl hF
    replace hF : G_Sp_tick_55 S.2.2 Q (L_Sp_tick_55 S.2.2 Q n) v0 x1 x2 σ := hF
    unfold G_Sp_tick_55 at hF
    refine lv_iload_n hx hb d_Sp_tick_55 rfl (lv_at hl 2 rfl) ?_
    refine lv_iconst hx hb d_Sp_tick_56 ki_4 ?_
    refine lv_icmp_ge hx hb d_Sp_tick_57 (tgt := 86) rfl (fun hc => ?_) (fun hc => ?_)
    · replace hF := hF.1 hc
      refine lv_iload_n hx hb d_Sp_tick_86 rfl (lv_at hl 1 rfl) ?_
      exact rs_iret C hH hT hS hF d_Sp_tick_87
    · replace hF := hF.2 hc
      refine lv_iload_n hx hb d_Sp_tick_60 rfl (lv_at hl 1 rfl) ?_
      refine lv_aload_n hx hb d_Sp_tick_61 rfl (lv_at hl 0 rfl) ?_
      refine rs_getR C hH hT h_v0 fk_1_1 tw_321 d_Sp_tick_62 (fun h51 => ?_)
      refine lv_iload_n hx hb d_Sp_tick_65 rfl (lv_at hl 2 rfl) ?_
      obtain ⟨g52, hF⟩ := hF
      refine rs_aald C hH hT h51 ak_24 g52 d_Sp_tick_66 (fun h53 => ?_)
      refine rs_ci (rs_runV C hH hT hl (J_Pe_isUp l h53 hF) rc_Pe_isUp tw_451 tw_452 tw_453 h53 ⟨rfl, by decide, by decide⟩ rfl ⟨⟨rfl, rfl⟩, by decide, by decide, by decide⟩ (Nat.le_of_ble_eq_true rfl) rfl d_Sp_tick_67) hS (fun x55 σ54 H locs hH hT hS hF => ?_)
      refine lv_if_eq hx hb d_Sp_tick_70 (tgt := 77) rfl (fun hc => ?_) (fun hc => ?_)
      · replace hF := hF.1 hc
        refine lv_iconst hx hb d_Sp_tick_77 ki_0 ?_
        exact JB_Sp_tick_78 C hK55 v0 x2 x1 (0 : Int32) σ54 _ _ _ h_v0 hH hT hS (lv_sub hl [0, 2] rfl) hF
      · replace hF := hF.2 hc
        refine lv_iconst hx hb d_Sp_tick_73 ki_1 ?_
        refine lv_goto hx hb d_Sp_tick_74 (tgt := 78) rfl ?_
        exact JB_Sp_tick_78 C hK55 v0 x2 x1 (1 : Int32) σ54 _ _ _ h_v0 hH hT hS (lv_sub hl [0, 2] rfl) hF
set_option maxRecDepth 20000 in
theorem JL_Sp_tick_24 {p : Program} {l : Launch} {e : Env} {s : State} {m : MethodId} {args : Array Value} {below : List Frame} {meth : Method} {c : Code} {G : rs_G} {Bm : Nat} {S : rs_Shp} {Q : Int32 → rs_Mem → Prop} (C : rs_C "RouteSpeaker" prog_1_method_12_code 3 (some .int) G p s m meth c args) : ∀ n : Nat, ∀ (v0 : Nat) (x1 : Int32) (σ : rs_Mem) (H : Heap) (locs : List Loc) (ls : Array Slot), rs_Ok S 1 v0 → rs_H G Bm S σ H → rs_T S σ → va_S (rs_A Bm) s.heap H locs → lv_has ls 3 [(0, .ref (Bm + v0)), (1, .int x1)] → (L_Sp_tick_24 S.2.2 Q n) v0 x1 σ → W p l e { frames := 6, cells := 0, slots := 0, locals := 140 } s m args below meth c H locs 0 0 (MQ below (rs_Qi G Bm S Q) args s 0 0 (rs_A Bm)) (F0 m 24 ls []) := by
  have hx := C.1
  have hb := C.2.1
  intro n
  induction n with
  | zero => intros; rename_i hF; exact hF.elim
  | succ n hK24 =>
    intro v0 x1 σ H locs ls h_v0 hH hT hS hl hF
    replace hF : G_Sp_tick_24 S.2.2 Q (L_Sp_tick_24 S.2.2 Q n) v0 x1 σ := hF
    unfold G_Sp_tick_24 at hF
    refine lv_iload_n hx hb d_Sp_tick_24 rfl (lv_at hl 1 rfl) ?_
    refine lv_iconst hx hb d_Sp_tick_25 ki_4 ?_
    refine lv_icmp_ge hx hb d_Sp_tick_26 (tgt := 47) rfl (fun hc => ?_) (fun hc => ?_)
    · replace hF := hF.1 hc
      refine lv_aload_n hx hb d_Sp_tick_47 rfl (lv_at hl 0 rfl) ?_
      refine rs_cv (rs_runV C hH hT hl (J_Sp_tellAll l h_v0 hF) rc_Sp_tellAll tw_373 tw_375 ts_3 h_v0 ⟨rfl, by decide, by decide⟩ rfl ⟨⟨rfl, rfl⟩, by decide, by decide, by decide⟩ (Nat.le_of_ble_eq_true rfl) rfl d_Sp_tick_48) hS (fun σ51 H locs hH hT hS hF => ?_)
      refine lv_iconst hx hb d_Sp_tick_51 ki_0 ?_
      refine lv_istore_n hx hb d_Sp_tick_52 rfl hl (by decide) (lv' := [(1, .int (0 : Int32)), (0, .ref (Bm + v0))]) rfl (fun ls hl => ?_)
      refine lv_iconst hx hb d_Sp_tick_53 ki_0 ?_
      refine lv_istore_n hx hb d_Sp_tick_54 rfl hl (by decide) (lv' := [(2, .int (0 : Int32)), (1, .int (0 : Int32)), (0, .ref (Bm + v0))]) rfl (fun ls hl => ?_)
      obtain ⟨n, hF⟩ := hF
      exact JL_Sp_tick_55 C n v0 (0 : Int32) (0 : Int32) σ51 _ _ _ h_v0 hH hT hS (lv_sub hl [2, 1, 0] rfl) hF
    · replace hF := hF.2 hc
      refine lv_aload_n hx hb d_Sp_tick_29 rfl (lv_at hl 0 rfl) ?_
      refine rs_getR C hH hT h_v0 fk_1_1 tw_321 d_Sp_tick_30 (fun h51 => ?_)
      refine lv_iload_n hx hb d_Sp_tick_33 rfl (lv_at hl 1 rfl) ?_
      obtain ⟨g52, hF⟩ := hF
      refine rs_aald C hH hT h51 ak_24 g52 d_Sp_tick_34 (fun h53 => ?_)
      refine rs_getR C hH hT h53 fk_6_15 tw_283 d_Sp_tick_35 (fun h54 => ?_)
      refine rs_cv (rs_runV C hH hT hl (J_In_decay l h54 hF) rc_In_decay tw_367 tw_368 tw_369 h54 ⟨rfl, by decide, by decide⟩ rfl ⟨⟨rfl, rfl⟩, by decide, by decide, by decide⟩ (Nat.le_of_ble_eq_true rfl) rfl d_Sp_tick_38) hS (fun σ55 H locs hH hT hS hF => ?_)
      obtain ⟨x56, ex56⟩ : ∃ z : Int32, z = x1 + (1 : Int32) := ⟨_, rfl⟩
      replace hF := hF x56 ex56
      refine lv_iinc hx hb d_Sp_tick_41 hl (k := 1) rfl (v := x56) (by rw [ki_1, ex56]) (by decide) (lv' := [(1, .int x56), (0, .ref (Bm + v0))]) rfl (fun ls hl => ?_)
      refine lv_goto hx hb d_Sp_tick_44 (tgt := 24) rfl ?_
      exact hK24 v0 x56 σ55 _ _ _ h_v0 hH hT hS (lv_sub hl [1, 0] rfl) hF
set_option maxRecDepth 20000 in
theorem JL_Sp_tick_2 {p : Program} {l : Launch} {e : Env} {s : State} {m : MethodId} {args : Array Value} {below : List Frame} {meth : Method} {c : Code} {G : rs_G} {Bm : Nat} {S : rs_Shp} {Q : Int32 → rs_Mem → Prop} (C : rs_C "RouteSpeaker" prog_1_method_12_code 3 (some .int) G p s m meth c args) : ∀ n : Nat, ∀ (v0 : Nat) (x1 : Int32) (σ : rs_Mem) (H : Heap) (locs : List Loc) (ls : Array Slot), rs_Ok S 1 v0 → rs_H G Bm S σ H → rs_T S σ → va_S (rs_A Bm) s.heap H locs → lv_has ls 3 [(0, .ref (Bm + v0)), (1, .int x1)] → (L_Sp_tick_2 S.2.2 Q n) v0 x1 σ → W p l e { frames := 6, cells := 0, slots := 0, locals := 140 } s m args below meth c H locs 0 0 (MQ below (rs_Qi G Bm S Q) args s 0 0 (rs_A Bm)) (F0 m 2 ls []) := by
  have hx := C.1
  have hb := C.2.1
  intro n
  induction n with
  | zero => intros; rename_i hF; exact hF.elim
  | succ n hK2 =>
    intro v0 x1 σ H locs ls h_v0 hH hT hS hl hF
    replace hF : G_Sp_tick_2 S.2.2 Q (L_Sp_tick_2 S.2.2 Q n) v0 x1 σ := hF
    unfold G_Sp_tick_2 at hF
    refine lv_iload_n hx hb d_Sp_tick_2 rfl (lv_at hl 1 rfl) ?_
    refine lv_iconst hx hb d_Sp_tick_3 ki_4 ?_
    refine lv_icmp_ge hx hb d_Sp_tick_4 (tgt := 22) rfl (fun hc => ?_) (fun hc => ?_)
    · replace hF := hF.1 hc
      refine lv_iconst hx hb d_Sp_tick_22 ki_0 ?_
      refine lv_istore_n hx hb d_Sp_tick_23 rfl hl (by decide) (lv' := [(1, .int (0 : Int32)), (0, .ref (Bm + v0))]) rfl (fun ls hl => ?_)
      obtain ⟨n, hF⟩ := hF
      exact JL_Sp_tick_24 C n v0 (0 : Int32) σ _ _ _ h_v0 hH hT hS (lv_sub hl [1, 0] rfl) hF
    · replace hF := hF.2 hc
      refine lv_aload_n hx hb d_Sp_tick_7 rfl (lv_at hl 0 rfl) ?_
      refine rs_getR C hH hT h_v0 fk_1_1 tw_321 d_Sp_tick_8 (fun h51 => ?_)
      refine lv_iload_n hx hb d_Sp_tick_11 rfl (lv_at hl 1 rfl) ?_
      obtain ⟨g52, hF⟩ := hF
      refine rs_aald C hH hT h51 ak_24 g52 d_Sp_tick_12 (fun h53 => ?_)
      refine rs_cv (rs_runV C hH hT hl (J_Pe_passTime l h53 hF) rc_Pe_passTime tw_343 tw_344 tw_345 h53 ⟨rfl, by decide, by decide⟩ rfl ⟨⟨rfl, rfl⟩, by decide, by decide, by decide⟩ (Nat.le_of_ble_eq_true rfl) rfl d_Sp_tick_13) hS (fun σ54 H locs hH hT hS hF => ?_)
      obtain ⟨x55, ex55⟩ : ∃ z : Int32, z = x1 + (1 : Int32) := ⟨_, rfl⟩
      replace hF := hF x55 ex55
      refine lv_iinc hx hb d_Sp_tick_16 hl (k := 1) rfl (v := x55) (by rw [ki_1, ex55]) (by decide) (lv' := [(1, .int x55), (0, .ref (Bm + v0))]) rfl (fun ls hl => ?_)
      refine lv_goto hx hb d_Sp_tick_19 (tgt := 2) rfl ?_
      exact hK2 v0 x55 σ54 _ _ _ h_v0 hH hT hS (lv_sub hl [1, 0] rfl) hF
abbrev y_Sp_tick : MethodName := ({ cls := "RouteSpeaker", name := "tick", desc := "()I" } : Jvm.MethodName)
theorem rc_Sp_tick : rs_Cal y_Sp_tick prog_1_method_12_code 3 (some .int) 0 := ⟨tw_342, tw_1, by decide, by decide, by decide +kernel⟩
set_option maxRecDepth 20000 in
theorem J_Sp_tick (l : Launch) {G : rs_G} {Bm : Nat} {S : rs_Shp} {v0 : Nat} {σ : rs_Mem} {Q : Int32 → rs_Mem → Prop} (h_v0 : rs_Ok S 1 v0) (hF : F_Sp_tick S.2.2 v0 σ Q) :
    Met l y_Sp_tick (rs_ws y_Sp_tick prog_1_method_12_code 3 (some .int)) { frames := 6, cells := 0, slots := 0, locals := 140 } (rs_P G Bm S σ [.ref (Bm + v0)]) (rs_Qi G Bm S Q) 0 0 (rs_A Bm) := by
  refine rs_met (own := "RouteSpeaker") (by decide) rfl (Nat.le_of_ble_eq_true rfl) (fun p e s m below meth c ls C hl hH hT hS => ?_)
  replace hl : lv_has ls 3 [(0, .ref (Bm + v0))] := hl
  have hx := C.1
  have hb := C.2.1
  unfold F_Sp_tick at hF
  refine lv_iconst hx hb d_Sp_tick_0 ki_0 ?_
  refine lv_istore_n hx hb d_Sp_tick_1 rfl hl (by decide) (lv' := [(1, .int (0 : Int32)), (0, .ref (Bm + v0))]) rfl (fun ls hl => ?_)
  obtain ⟨n, hF⟩ := hF
  exact JL_Sp_tick_2 C n v0 (0 : Int32) σ _ _ _ h_v0 hH hT hS (lv_sub hl [1, 0] rfl) hF
/-! RouteSpeaker.session(II)I -/
theorem d_Sp_session_0 : decode prog_1_method_13_code 0 = .ok (.iload_n 1, 1) := by decide +kernel
theorem d_Sp_session_1 : decode prog_1_method_13_code 1 = .ok (.invokestatic 57, 3) := by decide +kernel
theorem d_Sp_session_4 : decode prog_1_method_13_code 4 = .ok (.ifCond .ne (5), 3) := by decide +kernel
theorem d_Sp_session_7 : decode prog_1_method_13_code 7 = .ok (.iconst (-1), 1) := by decide +kernel
theorem d_Sp_session_8 : decode prog_1_method_13_code 8 = .ok (.ireturn, 1) := by decide +kernel
theorem d_Sp_session_9 : decode prog_1_method_13_code 9 = .ok (.aload_n 0, 1) := by decide +kernel
theorem d_Sp_session_10 : decode prog_1_method_13_code 10 = .ok (.getfield 18, 3) := by decide +kernel
theorem d_Sp_session_13 : decode prog_1_method_13_code 13 = .ok (.iload_n 1, 1) := by decide +kernel
theorem d_Sp_session_14 : decode prog_1_method_13_code 14 = .ok (.aaload, 1) := by decide +kernel
theorem d_Sp_session_15 : decode prog_1_method_13_code 15 = .ok (.astore_n 3, 1) := by decide +kernel
theorem d_Sp_session_16 : decode prog_1_method_13_code 16 = .ok (.iload_n 2, 1) := by decide +kernel
theorem d_Sp_session_17 : decode prog_1_method_13_code 17 = .ok (.tableswitch (81) (0) (6) #[43, 48, 53, 58, 63, 68, 76], 43) := by decide +kernel
theorem d_Sp_session_60 : decode prog_1_method_13_code 60 = .ok (.aload_n 3, 1) := by decide +kernel
theorem d_Sp_session_61 : decode prog_1_method_13_code 61 = .ok (.getfield 162, 3) := by decide +kernel
theorem d_Sp_session_64 : decode prog_1_method_13_code 64 = .ok (.ireturn, 1) := by decide +kernel
theorem d_Sp_session_65 : decode prog_1_method_13_code 65 = .ok (.aload_n 3, 1) := by decide +kernel
theorem d_Sp_session_66 : decode prog_1_method_13_code 66 = .ok (.getfield 165, 3) := by decide +kernel
theorem d_Sp_session_69 : decode prog_1_method_13_code 69 = .ok (.ireturn, 1) := by decide +kernel
theorem d_Sp_session_70 : decode prog_1_method_13_code 70 = .ok (.aload_n 3, 1) := by decide +kernel
theorem d_Sp_session_71 : decode prog_1_method_13_code 71 = .ok (.getfield 168, 3) := by decide +kernel
theorem d_Sp_session_74 : decode prog_1_method_13_code 74 = .ok (.ireturn, 1) := by decide +kernel
theorem d_Sp_session_75 : decode prog_1_method_13_code 75 = .ok (.aload_n 3, 1) := by decide +kernel
theorem d_Sp_session_76 : decode prog_1_method_13_code 76 = .ok (.getfield 171, 3) := by decide +kernel
theorem d_Sp_session_79 : decode prog_1_method_13_code 79 = .ok (.ireturn, 1) := by decide +kernel
theorem d_Sp_session_80 : decode prog_1_method_13_code 80 = .ok (.aload_n 3, 1) := by decide +kernel
theorem d_Sp_session_81 : decode prog_1_method_13_code 81 = .ok (.getfield 174, 3) := by decide +kernel
theorem d_Sp_session_84 : decode prog_1_method_13_code 84 = .ok (.ireturn, 1) := by decide +kernel
theorem d_Sp_session_85 : decode prog_1_method_13_code 85 = .ok (.aload_n 3, 1) := by decide +kernel
theorem d_Sp_session_86 : decode prog_1_method_13_code 86 = .ok (.getfield 134, 3) := by decide +kernel
theorem d_Sp_session_89 : decode prog_1_method_13_code 89 = .ok (.getfield 177, 3) := by decide +kernel
theorem d_Sp_session_92 : decode prog_1_method_13_code 92 = .ok (.ireturn, 1) := by decide +kernel
theorem d_Sp_session_93 : decode prog_1_method_13_code 93 = .ok (.aload_n 3, 1) := by decide +kernel
theorem d_Sp_session_94 : decode prog_1_method_13_code 94 = .ok (.getfield 180, 3) := by decide +kernel
theorem d_Sp_session_97 : decode prog_1_method_13_code 97 = .ok (.ireturn, 1) := by decide +kernel
theorem d_Sp_session_98 : decode prog_1_method_13_code 98 = .ok (.iconst (-1), 1) := by decide +kernel
theorem d_Sp_session_99 : decode prog_1_method_13_code 99 = .ok (.ireturn, 1) := by decide +kernel
def F_Sp_session (N : Nat → Nat) (v0 : Nat) (x1 : Int32) (x2 : Int32) (σ : rs_Mem) (Q : Int32 → rs_Mem → Prop) : Prop :=
  (F_Sp_isPeer N x1 σ (fun x52 σ51 => ((¬ (x52 = 0) → (vp_in x1 (N (rs_R σ51 v0 1)) ∧ (∀ v56 : Nat, v56 = (rs_R σ51 (rs_R σ51 v0 1) x1.toNatClampNeg) → (((x2.toInt < 0 ∨ 6 < x2.toInt) → (Q (-1 : Int32) σ51)) ∧ (x2 = 0 → (Q (rs_I σ51 v56 6) σ51)) ∧ (x2 = 1 → (Q (rs_I σ51 v56 7) σ51)) ∧ (x2 = 2 → (Q (rs_I σ51 v56 8) σ51)) ∧ (x2 = 3 → (Q (rs_I σ51 v56 9) σ51)) ∧ (x2 = 4 → (Q (rs_I σ51 v56 10) σ51)) ∧ (x2 = 5 → (Q (rs_I σ51 (rs_R σ51 v56 13) 2) σ51)) ∧ (x2 = 6 → (Q (rs_I σ51 v56 11) σ51)))))) ∧ (x52 = 0 → (Q (-1 : Int32) σ51)))))
abbrev y_Sp_session : MethodName := ({ cls := "RouteSpeaker", name := "session", desc := "(II)I" } : Jvm.MethodName)
theorem rc_Sp_session : rs_Cal y_Sp_session prog_1_method_13_code 4 (some .int) 2 := ⟨tw_516, tw_1, by decide, by decide, by decide +kernel⟩
set_option maxRecDepth 20000 in
theorem J_Sp_session (l : Launch) {G : rs_G} {Bm : Nat} {S : rs_Shp} {v0 : Nat} {x1 : Int32} {x2 : Int32} {σ : rs_Mem} {Q : Int32 → rs_Mem → Prop} (h_v0 : rs_Ok S 1 v0) (hF : F_Sp_session S.2.2 v0 x1 x2 σ Q) :
    Met l y_Sp_session (rs_ws y_Sp_session prog_1_method_13_code 4 (some .int)) { frames := 1, cells := 0, slots := 0, locals := 20 } (rs_P G Bm S σ [.ref (Bm + v0), .int x1, .int x2]) (rs_Qi G Bm S Q) 0 0 (rs_A Bm) := by
  refine rs_met (own := "RouteSpeaker") (by decide) rfl (Nat.le_of_ble_eq_true rfl) (fun p e s m below meth c ls C hl hH hT hS => ?_)
  replace hl : lv_has ls 4 [(0, .ref (Bm + v0)), (1, .int x1), (2, .int x2)] := hl
  have hx := C.1
  have hb := C.2.1
  unfold F_Sp_session at hF
  refine lv_iload_n hx hb d_Sp_session_0 rfl (lv_at hl 1 rfl) ?_
  refine rs_ci (rs_runS C hH hT hl (J_Sp_isPeer l hF) rc_Sp_isPeer tw_517 tw_518 rfl ⟨⟨rfl, rfl⟩, by decide, by decide, by decide⟩ (Nat.le_of_ble_eq_true rfl) rfl d_Sp_session_1) hS (fun x52 σ51 H locs hH hT hS hF => ?_)
  refine lv_if_ne hx hb d_Sp_session_4 (tgt := 9) rfl (fun hc => ?_) (fun hc => ?_)
  · replace hF := hF.1 hc
    refine lv_aload_n hx hb d_Sp_session_9 rfl (lv_at hl 0 rfl) ?_
    refine rs_getR C hH hT h_v0 fk_1_1 tw_321 d_Sp_session_10 (fun h53 => ?_)
    refine lv_iload_n hx hb d_Sp_session_13 rfl (lv_at hl 1 rfl) ?_
    obtain ⟨g54, hF⟩ := hF
    refine rs_aald C hH hT h53 ak_24 g54 d_Sp_session_14 (fun h55 => ?_)
    refine rs_topr (fun v56 ev56 => ?_)
    replace hF := hF v56 ev56
    have h_v56 : rs_Ok S 6 v56 := by rw [ev56]; exact h55
    refine lv_astore_n hx hb d_Sp_session_15 rfl hl (by decide) (lv' := [(3, .ref (Bm + v56)), (0, .ref (Bm + v0)), (1, .int x1), (2, .int x2)]) rfl (fun ls hl => ?_)
    refine lv_iload_n hx hb d_Sp_session_16 rfl (lv_at hl 3 rfl) ?_
    rcases rs_sw_0_6 x2 with hc | hc | hc | hc | hc | hc | hc | hc
    · replace hF := hF.1 hc
      refine lv_tableOut hx hb d_Sp_session_17 hc (tgt := 98) rfl ?_
      refine lv_iconst hx hb d_Sp_session_98 ki_m1 ?_
      exact rs_iret C hH hT hS hF d_Sp_session_99
    · replace hF := hF.2.1 hc
      refine lv_tableIn hx hb d_Sp_session_17 (by rw [hc]; decide) (by rw [hc]; decide) (off := 43) (by rw [hc]; rfl) (tgt := 60) rfl ?_
      refine lv_aload_n hx hb d_Sp_session_60 rfl (lv_at hl 0 rfl) ?_
      refine rs_getI C hH h_v56 fk_6_6 tw_267 d_Sp_session_61 ?_
      exact rs_iret C hH hT hS hF d_Sp_session_64
    · replace hF := hF.2.2.1 hc
      refine lv_tableIn hx hb d_Sp_session_17 (by rw [hc]; decide) (by rw [hc]; decide) (off := 48) (by rw [hc]; rfl) (tgt := 65) rfl ?_
      refine lv_aload_n hx hb d_Sp_session_65 rfl (lv_at hl 0 rfl) ?_
      refine rs_getI C hH h_v56 fk_6_7 tw_269 d_Sp_session_66 ?_
      exact rs_iret C hH hT hS hF d_Sp_session_69
    · replace hF := hF.2.2.2.1 hc
      refine lv_tableIn hx hb d_Sp_session_17 (by rw [hc]; decide) (by rw [hc]; decide) (off := 53) (by rw [hc]; rfl) (tgt := 70) rfl ?_
      refine lv_aload_n hx hb d_Sp_session_70 rfl (lv_at hl 0 rfl) ?_
      refine rs_getI C hH h_v56 fk_6_8 tw_271 d_Sp_session_71 ?_
      exact rs_iret C hH hT hS hF d_Sp_session_74
    · replace hF := hF.2.2.2.2.1 hc
      refine lv_tableIn hx hb d_Sp_session_17 (by rw [hc]; decide) (by rw [hc]; decide) (off := 58) (by rw [hc]; rfl) (tgt := 75) rfl ?_
      refine lv_aload_n hx hb d_Sp_session_75 rfl (lv_at hl 0 rfl) ?_
      refine rs_getI C hH h_v56 fk_6_9 tw_273 d_Sp_session_76 ?_
      exact rs_iret C hH hT hS hF d_Sp_session_79
    · replace hF := hF.2.2.2.2.2.1 hc
      refine lv_tableIn hx hb d_Sp_session_17 (by rw [hc]; decide) (by rw [hc]; decide) (off := 63) (by rw [hc]; rfl) (tgt := 80) rfl ?_
      refine lv_aload_n hx hb d_Sp_session_80 rfl (lv_at hl 0 rfl) ?_
      refine rs_getI C hH h_v56 fk_6_10 tw_274 d_Sp_session_81 ?_
      exact rs_iret C hH hT hS hF d_Sp_session_84
    · replace hF := hF.2.2.2.2.2.2.1 hc
      refine lv_tableIn hx hb d_Sp_session_17 (by rw [hc]; decide) (by rw [hc]; decide) (off := 68) (by rw [hc]; rfl) (tgt := 85) rfl ?_
      refine lv_aload_n hx hb d_Sp_session_85 rfl (lv_at hl 0 rfl) ?_
      refine rs_getR C hH hT h_v56 fk_6_13 tw_280 d_Sp_session_86 (fun h57 => ?_)
      refine rs_getI C hH h57 fk_5_2 tw_220 d_Sp_session_89 ?_
      exact rs_iret C hH hT hS hF d_Sp_session_92
    · replace hF := hF.2.2.2.2.2.2.2 hc
      refine lv_tableIn hx hb d_Sp_session_17 (by rw [hc]; decide) (by rw [hc]; decide) (off := 76) (by rw [hc]; rfl) (tgt := 93) rfl ?_
      refine lv_aload_n hx hb d_Sp_session_93 rfl (lv_at hl 0 rfl) ?_
      refine rs_getI C hH h_v56 fk_6_11 tw_277 d_Sp_session_94 ?_
      exact rs_iret C hH hT hS hF d_Sp_session_97
  · replace hF := hF.2 hc
    refine lv_iconst hx hb d_Sp_session_7 ki_m1 ?_
    exact rs_iret C hH hT hS hF d_Sp_session_8
/-! RouteSpeaker$Route.itemOf([III)I -/
theorem d_Ro_itemOf_0 : decode prog_8_method_10_code 0 = .ok (.iload_n 2, 1) := by decide +kernel
theorem d_Ro_itemOf_1 : decode prog_8_method_10_code 1 = .ok (.ifCond .lt (20), 3) := by decide +kernel
theorem d_Ro_itemOf_4 : decode prog_8_method_10_code 4 = .ok (.iload_n 2, 1) := by decide +kernel
theorem d_Ro_itemOf_5 : decode prog_8_method_10_code 5 = .ok (.iload_n 1, 1) := by decide +kernel
theorem d_Ro_itemOf_6 : decode prog_8_method_10_code 6 = .ok (.if_icmp .ge (15), 3) := by decide +kernel
theorem d_Ro_itemOf_9 : decode prog_8_method_10_code 9 = .ok (.iload_n 2, 1) := by decide +kernel
theorem d_Ro_itemOf_10 : decode prog_8_method_10_code 10 = .ok (.aload_n 0, 1) := by decide +kernel
theorem d_Ro_itemOf_11 : decode prog_8_method_10_code 11 = .ok (.arraylength, 1) := by decide +kernel
theorem d_Ro_itemOf_12 : decode prog_8_method_10_code 12 = .ok (.if_icmp .ge (9), 3) := by decide +kernel
theorem d_Ro_itemOf_15 : decode prog_8_method_10_code 15 = .ok (.aload_n 0, 1) := by decide +kernel
theorem d_Ro_itemOf_16 : decode prog_8_method_10_code 16 = .ok (.iload_n 2, 1) := by decide +kernel
theorem d_Ro_itemOf_17 : decode prog_8_method_10_code 17 = .ok (.iaload, 1) := by decide +kernel
theorem d_Ro_itemOf_18 : decode prog_8_method_10_code 18 = .ok (.goto (4), 3) := by decide +kernel
theorem d_Ro_itemOf_21 : decode prog_8_method_10_code 21 = .ok (.iconst 0, 1) := by decide +kernel
theorem d_Ro_itemOf_22 : decode prog_8_method_10_code 22 = .ok (.ireturn, 1) := by decide +kernel
def F_Ro_itemOf (N : Nat → Nat) (v0 : Nat) (x1 : Int32) (x2 : Int32) (σ : rs_Mem) (Q : Int32 → rs_Mem → Prop) : Prop :=
  ((x2 < 0 → (Q (0 : Int32) σ)) ∧ (¬ (x2 < 0) → ((x1 ≤ x2 → (Q (0 : Int32) σ)) ∧ (¬ (x1 ≤ x2) → (((nI (N v0)) ≤ x2 → (Q (0 : Int32) σ)) ∧ (¬ ((nI (N v0)) ≤ x2) → (vp_in x2 (N v0) ∧ (Q (rs_I σ v0 x2.toNatClampNeg) σ))))))))
abbrev y_Ro_itemOf : MethodName := ({ cls := "RouteSpeaker$Route", name := "itemOf", desc := "([III)I" } : Jvm.MethodName)
theorem rc_Ro_itemOf : rs_Cal y_Ro_itemOf prog_8_method_10_code 3 (some .int) 3 := ⟨tw_866, tw_3, by decide, by decide, by decide +kernel⟩
set_option maxRecDepth 20000 in
theorem J_Ro_itemOf (l : Launch) {G : rs_G} {Bm : Nat} {S : rs_Shp} {v0 : Nat} {x1 : Int32} {x2 : Int32} {σ : rs_Mem} {Q : Int32 → rs_Mem → Prop} (h_v0 : rs_Ok S 20 v0) (hF : F_Ro_itemOf S.2.2 v0 x1 x2 σ Q) :
    Met l y_Ro_itemOf (rs_ws y_Ro_itemOf prog_8_method_10_code 3 (some .int)) { frames := 0, cells := 0, slots := 0, locals := 0 } (rs_P G Bm S σ [.ref (Bm + v0), .int x1, .int x2]) (rs_Qi G Bm S Q) 0 0 (rs_A Bm) := by
  refine rs_met (own := "RouteSpeaker$Route") (by decide) rfl (Nat.le_of_ble_eq_true rfl) (fun p e s m below meth c ls C hl hH hT hS => ?_)
  replace hl : lv_has ls 3 [(0, .ref (Bm + v0)), (1, .int x1), (2, .int x2)] := hl
  have hx := C.1
  have hb := C.2.1
  unfold F_Ro_itemOf at hF
  refine lv_iload_n hx hb d_Ro_itemOf_0 rfl (lv_at hl 2 rfl) ?_
  refine lv_if_lt hx hb d_Ro_itemOf_1 (tgt := 21) rfl (fun hc => ?_) (fun hc => ?_)
  · replace hF := hF.1 hc
    refine lv_iconst hx hb d_Ro_itemOf_21 ki_0 ?_
    exact rs_iret C hH hT hS hF d_Ro_itemOf_22
  · replace hF := hF.2 hc
    refine lv_iload_n hx hb d_Ro_itemOf_4 rfl (lv_at hl 2 rfl) ?_
    refine lv_iload_n hx hb d_Ro_itemOf_5 rfl (lv_at hl 1 rfl) ?_
    refine lv_icmp_ge hx hb d_Ro_itemOf_6 (tgt := 21) rfl (fun hc => ?_) (fun hc => ?_)
    · replace hF := hF.1 hc
      refine lv_iconst hx hb d_Ro_itemOf_21 ki_0 ?_
      exact rs_iret C hH hT hS hF d_Ro_itemOf_22
    · replace hF := hF.2 hc
      refine lv_iload_n hx hb d_Ro_itemOf_9 rfl (lv_at hl 2 rfl) ?_
      refine lv_aload_n hx hb d_Ro_itemOf_10 rfl (lv_at hl 0 rfl) ?_
      refine rs_alen C hH h_v0 (by decide) d_Ro_itemOf_11 ?_
      refine lv_icmp_ge hx hb d_Ro_itemOf_12 (tgt := 21) rfl (fun hc => ?_) (fun hc => ?_)
      · replace hF := hF.1 hc
        refine lv_iconst hx hb d_Ro_itemOf_21 ki_0 ?_
        exact rs_iret C hH hT hS hF d_Ro_itemOf_22
      · replace hF := hF.2 hc
        refine lv_aload_n hx hb d_Ro_itemOf_15 rfl (lv_at hl 0 rfl) ?_
        refine lv_iload_n hx hb d_Ro_itemOf_16 rfl (lv_at hl 2 rfl) ?_
        obtain ⟨g51, hF⟩ := hF
        refine rs_iald C hH h_v0 g51 d_Ro_itemOf_17 ?_
        refine lv_goto hx hb d_Ro_itemOf_18 (tgt := 22) rfl ?_
        exact rs_iret C hH hT hS hF d_Ro_itemOf_22
/-! RouteSpeaker$Route.detail(I)I -/
theorem d_Ro_detail_0 : decode prog_8_method_9_code 0 = .ok (.iload_n 1, 1) := by decide +kernel
theorem d_Ro_detail_1 : decode prog_8_method_9_code 1 = .ok (.tableswitch (69) (2) (7) #[39, 44, 49, 54, 59, 64], 39) := by decide +kernel
theorem d_Ro_detail_40 : decode prog_8_method_9_code 40 = .ok (.aload_n 0, 1) := by decide +kernel
theorem d_Ro_detail_41 : decode prog_8_method_9_code 41 = .ok (.getfield 25, 3) := by decide +kernel
theorem d_Ro_detail_44 : decode prog_8_method_9_code 44 = .ok (.ireturn, 1) := by decide +kernel
theorem d_Ro_detail_45 : decode prog_8_method_9_code 45 = .ok (.aload_n 0, 1) := by decide +kernel
theorem d_Ro_detail_46 : decode prog_8_method_9_code 46 = .ok (.getfield 28, 3) := by decide +kernel
theorem d_Ro_detail_49 : decode prog_8_method_9_code 49 = .ok (.ireturn, 1) := by decide +kernel
theorem d_Ro_detail_50 : decode prog_8_method_9_code 50 = .ok (.aload_n 0, 1) := by decide +kernel
theorem d_Ro_detail_51 : decode prog_8_method_9_code 51 = .ok (.getfield 31, 3) := by decide +kernel
theorem d_Ro_detail_54 : decode prog_8_method_9_code 54 = .ok (.ireturn, 1) := by decide +kernel
theorem d_Ro_detail_55 : decode prog_8_method_9_code 55 = .ok (.aload_n 0, 1) := by decide +kernel
theorem d_Ro_detail_56 : decode prog_8_method_9_code 56 = .ok (.getfield 15, 3) := by decide +kernel
theorem d_Ro_detail_59 : decode prog_8_method_9_code 59 = .ok (.ireturn, 1) := by decide +kernel
theorem d_Ro_detail_60 : decode prog_8_method_9_code 60 = .ok (.aload_n 0, 1) := by decide +kernel
theorem d_Ro_detail_61 : decode prog_8_method_9_code 61 = .ok (.getfield 37, 3) := by decide +kernel
theorem d_Ro_detail_64 : decode prog_8_method_9_code 64 = .ok (.ireturn, 1) := by decide +kernel
theorem d_Ro_detail_65 : decode prog_8_method_9_code 65 = .ok (.aload_n 0, 1) := by decide +kernel
theorem d_Ro_detail_66 : decode prog_8_method_9_code 66 = .ok (.getfield 40, 3) := by decide +kernel
theorem d_Ro_detail_69 : decode prog_8_method_9_code 69 = .ok (.ireturn, 1) := by decide +kernel
theorem d_Ro_detail_70 : decode prog_8_method_9_code 70 = .ok (.iload_n 1, 1) := by decide +kernel
theorem d_Ro_detail_71 : decode prog_8_method_9_code 71 = .ok (.bipush (16), 2) := by decide +kernel
theorem d_Ro_detail_73 : decode prog_8_method_9_code 73 = .ok (.if_icmp .ge (21), 3) := by decide +kernel
theorem d_Ro_detail_76 : decode prog_8_method_9_code 76 = .ok (.aload_n 0, 1) := by decide +kernel
theorem d_Ro_detail_77 : decode prog_8_method_9_code 77 = .ok (.getfield 9, 3) := by decide +kernel
theorem d_Ro_detail_80 : decode prog_8_method_9_code 80 = .ok (.aload_n 0, 1) := by decide +kernel
theorem d_Ro_detail_81 : decode prog_8_method_9_code 81 = .ok (.getfield 28, 3) := by decide +kernel
theorem d_Ro_detail_84 : decode prog_8_method_9_code 84 = .ok (.iload_n 1, 1) := by decide +kernel
theorem d_Ro_detail_85 : decode prog_8_method_9_code 85 = .ok (.bipush (8), 2) := by decide +kernel
theorem d_Ro_detail_87 : decode prog_8_method_9_code 87 = .ok (.isub, 1) := by decide +kernel
theorem d_Ro_detail_88 : decode prog_8_method_9_code 88 = .ok (.invokestatic 57, 3) := by decide +kernel
theorem d_Ro_detail_91 : decode prog_8_method_9_code 91 = .ok (.goto (18), 3) := by decide +kernel
theorem d_Ro_detail_94 : decode prog_8_method_9_code 94 = .ok (.aload_n 0, 1) := by decide +kernel
theorem d_Ro_detail_95 : decode prog_8_method_9_code 95 = .ok (.getfield 22, 3) := by decide +kernel
theorem d_Ro_detail_98 : decode prog_8_method_9_code 98 = .ok (.aload_n 0, 1) := by decide +kernel
theorem d_Ro_detail_99 : decode prog_8_method_9_code 99 = .ok (.getfield 40, 3) := by decide +kernel
theorem d_Ro_detail_102 : decode prog_8_method_9_code 102 = .ok (.iload_n 1, 1) := by decide +kernel
theorem d_Ro_detail_103 : decode prog_8_method_9_code 103 = .ok (.bipush (16), 2) := by decide +kernel
theorem d_Ro_detail_105 : decode prog_8_method_9_code 105 = .ok (.isub, 1) := by decide +kernel
theorem d_Ro_detail_106 : decode prog_8_method_9_code 106 = .ok (.invokestatic 57, 3) := by decide +kernel
theorem d_Ro_detail_109 : decode prog_8_method_9_code 109 = .ok (.ireturn, 1) := by decide +kernel
def F_Ro_detail (N : Nat → Nat) (v0 : Nat) (x1 : Int32) (σ : rs_Mem) (Q : Int32 → rs_Mem → Prop) : Prop :=
  (((x1.toInt < 2 ∨ 7 < x1.toInt) → (((16 : Int32) ≤ x1 → (F_Ro_itemOf N (rs_R σ v0 8) (rs_I σ v0 7) (x1 - (16 : Int32)) σ (fun x53 σ52 => (Q x53 σ52)))) ∧ (¬ ((16 : Int32) ≤ x1) → (F_Ro_itemOf N (rs_R σ v0 2) (rs_I σ v0 1) (x1 - (8 : Int32)) σ (fun x53 σ52 => (Q x53 σ52)))))) ∧ (x1 = 2 → (Q (rs_I σ v0 0) σ)) ∧ (x1 = 3 → (Q (rs_I σ v0 1) σ)) ∧ (x1 = 4 → (Q (rs_I σ v0 3) σ)) ∧ (x1 = 5 → (Q (rs_I σ v0 4) σ)) ∧ (x1 = 6 → (Q (rs_I σ v0 6) σ)) ∧ (x1 = 7 → (Q (rs_I σ v0 7) σ)))
abbrev y_Ro_detail : MethodName := ({ cls := "RouteSpeaker$Route", name := "detail", desc := "(I)I" } : Jvm.MethodName)
theorem rc_Ro_detail : rs_Cal y_Ro_detail prog_8_method_9_code 2 (some .int) 1 := ⟨tw_863, tw_3, by decide, by decide, by decide +kernel⟩
set_option maxRecDepth 20000 in
theorem J_Ro_detail (l : Launch) {G : rs_G} {Bm : Nat} {S : rs_Shp} {v0 : Nat} {x1 : Int32} {σ : rs_Mem} {Q : Int32 → rs_Mem → Prop} (h_v0 : rs_Ok S 8 v0) (hF : F_Ro_detail S.2.2 v0 x1 σ Q) :
    Met l y_Ro_detail (rs_ws y_Ro_detail prog_8_method_9_code 2 (some .int)) { frames := 1, cells := 0, slots := 0, locals := 22 } (rs_P G Bm S σ [.ref (Bm + v0), .int x1]) (rs_Qi G Bm S Q) 0 0 (rs_A Bm) := by
  refine rs_met (own := "RouteSpeaker$Route") (by decide) rfl (Nat.le_of_ble_eq_true rfl) (fun p e s m below meth c ls C hl hH hT hS => ?_)
  replace hl : lv_has ls 2 [(0, .ref (Bm + v0)), (1, .int x1)] := hl
  have hx := C.1
  have hb := C.2.1
  unfold F_Ro_detail at hF
  refine lv_iload_n hx hb d_Ro_detail_0 rfl (lv_at hl 1 rfl) ?_
  rcases rs_sw_2_7 x1 with hc | hc | hc | hc | hc | hc | hc
  · replace hF := hF.1 hc
    refine lv_tableOut hx hb d_Ro_detail_1 hc (tgt := 70) rfl ?_
    refine lv_iload_n hx hb d_Ro_detail_70 rfl (lv_at hl 1 rfl) ?_
    refine lv_bipush hx hb d_Ro_detail_71 kb_16 ?_
    refine lv_icmp_ge hx hb d_Ro_detail_73 (tgt := 94) rfl (fun hc => ?_) (fun hc => ?_)
    · replace hF := hF.1 hc
      refine lv_aload_n hx hb d_Ro_detail_94 rfl (lv_at hl 0 rfl) ?_
      refine rs_getR C hH hT h_v0 fk_8_8 tw_90 d_Ro_detail_95 (fun h51 => ?_)
      refine lv_aload_n hx hb d_Ro_detail_98 rfl (lv_at hl 0 rfl) ?_
      refine rs_getI C hH h_v0 fk_8_7 tw_86 d_Ro_detail_99 ?_
      refine lv_iload_n hx hb d_Ro_detail_102 rfl (lv_at hl 1 rfl) ?_
      refine lv_bipush hx hb d_Ro_detail_103 kb_16 ?_
      refine lv_isub hx hb d_Ro_detail_105 ?_
      refine rs_ci (rs_runS C hH hT hl (J_Ro_itemOf l h51 hF) rc_Ro_itemOf tw_864 tw_865 rfl ⟨⟨rfl, rfl⟩, by decide, by decide, by decide⟩ (Nat.le_of_ble_eq_true rfl) rfl d_Ro_detail_106) hS (fun x53 σ52 H locs hH hT hS hF => ?_)
      exact rs_iret C hH hT hS hF d_Ro_detail_109
    · replace hF := hF.2 hc
      refine lv_aload_n hx hb d_Ro_detail_76 rfl (lv_at hl 0 rfl) ?_
      refine rs_getR C hH hT h_v0 fk_8_2 tw_70 d_Ro_detail_77 (fun h51 => ?_)
      refine lv_aload_n hx hb d_Ro_detail_80 rfl (lv_at hl 0 rfl) ?_
      refine rs_getI C hH h_v0 fk_8_1 tw_66 d_Ro_detail_81 ?_
      refine lv_iload_n hx hb d_Ro_detail_84 rfl (lv_at hl 1 rfl) ?_
      refine lv_bipush hx hb d_Ro_detail_85 kb_8 ?_
      refine lv_isub hx hb d_Ro_detail_87 ?_
      refine rs_ci (rs_runS C hH hT hl (J_Ro_itemOf l h51 hF) rc_Ro_itemOf tw_864 tw_865 rfl ⟨⟨rfl, rfl⟩, by decide, by decide, by decide⟩ (Nat.le_of_ble_eq_true rfl) rfl d_Ro_detail_88) hS (fun x53 σ52 H locs hH hT hS hF => ?_)
      refine lv_goto hx hb d_Ro_detail_91 (tgt := 109) rfl ?_
      exact rs_iret C hH hT hS hF d_Ro_detail_109
  · replace hF := hF.2.1 hc
    refine lv_tableIn hx hb d_Ro_detail_1 (by rw [hc]; decide) (by rw [hc]; decide) (off := 39) (by rw [hc]; rfl) (tgt := 40) rfl ?_
    refine lv_aload_n hx hb d_Ro_detail_40 rfl (lv_at hl 0 rfl) ?_
    refine rs_getI C hH h_v0 fk_8_0 tw_62 d_Ro_detail_41 ?_
    exact rs_iret C hH hT hS hF d_Ro_detail_44
  · replace hF := hF.2.2.1 hc
    refine lv_tableIn hx hb d_Ro_detail_1 (by rw [hc]; decide) (by rw [hc]; decide) (off := 44) (by rw [hc]; rfl) (tgt := 45) rfl ?_
    refine lv_aload_n hx hb d_Ro_detail_45 rfl (lv_at hl 0 rfl) ?_
    refine rs_getI C hH h_v0 fk_8_1 tw_66 d_Ro_detail_46 ?_
    exact rs_iret C hH hT hS hF d_Ro_detail_49
  · replace hF := hF.2.2.2.1 hc
    refine lv_tableIn hx hb d_Ro_detail_1 (by rw [hc]; decide) (by rw [hc]; decide) (off := 49) (by rw [hc]; rfl) (tgt := 50) rfl ?_
    refine lv_aload_n hx hb d_Ro_detail_50 rfl (lv_at hl 0 rfl) ?_
    refine rs_getI C hH h_v0 fk_8_3 tw_74 d_Ro_detail_51 ?_
    exact rs_iret C hH hT hS hF d_Ro_detail_54
  · replace hF := hF.2.2.2.2.1 hc
    refine lv_tableIn hx hb d_Ro_detail_1 (by rw [hc]; decide) (by rw [hc]; decide) (off := 54) (by rw [hc]; rfl) (tgt := 55) rfl ?_
    refine lv_aload_n hx hb d_Ro_detail_55 rfl (lv_at hl 0 rfl) ?_
    refine rs_getI C hH h_v0 fk_8_4 tw_77 d_Ro_detail_56 ?_
    exact rs_iret C hH hT hS hF d_Ro_detail_59
  · replace hF := hF.2.2.2.2.2.1 hc
    refine lv_tableIn hx hb d_Ro_detail_1 (by rw [hc]; decide) (by rw [hc]; decide) (off := 59) (by rw [hc]; rfl) (tgt := 60) rfl ?_
    refine lv_aload_n hx hb d_Ro_detail_60 rfl (lv_at hl 0 rfl) ?_
    refine rs_getI C hH h_v0 fk_8_6 tw_84 d_Ro_detail_61 ?_
    exact rs_iret C hH hT hS hF d_Ro_detail_64
  · replace hF := hF.2.2.2.2.2.2 hc
    refine lv_tableIn hx hb d_Ro_detail_1 (by rw [hc]; decide) (by rw [hc]; decide) (off := 64) (by rw [hc]; rfl) (tgt := 65) rfl ?_
    refine lv_aload_n hx hb d_Ro_detail_65 rfl (lv_at hl 0 rfl) ?_
    refine rs_getI C hH h_v0 fk_8_7 tw_86 d_Ro_detail_66 ?_
    exact rs_iret C hH hT hS hF d_Ro_detail_69
/-! RouteSpeaker$Incoming.penaltyAt(I)D -/
theorem d_In_penaltyAt_0 : decode prog_3_method_3_code 0 = .ok (.iload_n 1, 1) := by decide +kernel
theorem d_In_penaltyAt_1 : decode prog_3_method_3_code 1 = .ok (.ifCond .lt (18), 3) := by decide +kernel
theorem d_In_penaltyAt_4 : decode prog_3_method_3_code 4 = .ok (.iload_n 1, 1) := by decide +kernel
theorem d_In_penaltyAt_5 : decode prog_3_method_3_code 5 = .ok (.bipush (12), 2) := by decide +kernel
theorem d_In_penaltyAt_7 : decode prog_3_method_3_code 7 = .ok (.if_icmp .ge (12), 3) := by decide +kernel
theorem d_In_penaltyAt_10 : decode prog_3_method_3_code 10 = .ok (.aload_n 0, 1) := by decide +kernel
theorem d_In_penaltyAt_11 : decode prog_3_method_3_code 11 = .ok (.getfield 24, 3) := by decide +kernel
theorem d_In_penaltyAt_14 : decode prog_3_method_3_code 14 = .ok (.iload_n 1, 1) := by decide +kernel
theorem d_In_penaltyAt_15 : decode prog_3_method_3_code 15 = .ok (.daload, 1) := by decide +kernel
theorem d_In_penaltyAt_16 : decode prog_3_method_3_code 16 = .ok (.goto (4), 3) := by decide +kernel
theorem d_In_penaltyAt_19 : decode prog_3_method_3_code 19 = .ok (.dconst 0, 1) := by decide +kernel
theorem d_In_penaltyAt_20 : decode prog_3_method_3_code 20 = .ok (.dreturn, 1) := by decide +kernel
def F_In_penaltyAt (N : Nat → Nat) (v0 : Nat) (x1 : Int32) (σ : rs_Mem) (Q : UInt64 → rs_Mem → Prop) : Prop :=
  ((x1 < 0 → (Q FP.dconst0 σ)) ∧ (¬ (x1 < 0) → (((12 : Int32) ≤ x1 → (Q FP.dconst0 σ)) ∧ (¬ ((12 : Int32) ≤ x1) → (vp_in x1 (N (rs_R σ v0 3)) ∧ (Q (rs_D σ (rs_R σ v0 3) x1.toNatClampNeg) σ))))))
abbrev y_In_penaltyAt : MethodName := ({ cls := "RouteSpeaker$Incoming", name := "penaltyAt", desc := "(I)D" } : Jvm.MethodName)
theorem rc_In_penaltyAt : rs_Cal y_In_penaltyAt prog_3_method_3_code 2 (some .double) 1 := ⟨tw_884, tw_10, by decide, by decide, by decide +kernel⟩
set_option maxRecDepth 20000 in
theorem J_In_penaltyAt (l : Launch) {G : rs_G} {Bm : Nat} {S : rs_Shp} {v0 : Nat} {x1 : Int32} {σ : rs_Mem} {Q : UInt64 → rs_Mem → Prop} (h_v0 : rs_Ok S 3 v0) (hF : F_In_penaltyAt S.2.2 v0 x1 σ Q) :
    Met l y_In_penaltyAt (rs_ws y_In_penaltyAt prog_3_method_3_code 2 (some .double)) { frames := 0, cells := 0, slots := 0, locals := 0 } (rs_P G Bm S σ [.ref (Bm + v0), .int x1]) (rs_Qd G Bm S Q) 0 0 (rs_A Bm) := by
  refine rs_met (own := "RouteSpeaker$Incoming") (by decide) rfl (Nat.le_of_ble_eq_true rfl) (fun p e s m below meth c ls C hl hH hT hS => ?_)
  replace hl : lv_has ls 2 [(0, .ref (Bm + v0)), (1, .int x1)] := hl
  have hx := C.1
  have hb := C.2.1
  unfold F_In_penaltyAt at hF
  refine lv_iload_n hx hb d_In_penaltyAt_0 rfl (lv_at hl 1 rfl) ?_
  refine lv_if_lt hx hb d_In_penaltyAt_1 (tgt := 19) rfl (fun hc => ?_) (fun hc => ?_)
  · replace hF := hF.1 hc
    refine lv_dconst0 hx hb d_In_penaltyAt_19 ?_
    exact rs_dret C hH hT hS hF d_In_penaltyAt_20
  · replace hF := hF.2 hc
    refine lv_iload_n hx hb d_In_penaltyAt_4 rfl (lv_at hl 1 rfl) ?_
    refine lv_bipush hx hb d_In_penaltyAt_5 kb_12 ?_
    refine lv_icmp_ge hx hb d_In_penaltyAt_7 (tgt := 19) rfl (fun hc => ?_) (fun hc => ?_)
    · replace hF := hF.1 hc
      refine lv_dconst0 hx hb d_In_penaltyAt_19 ?_
      exact rs_dret C hH hT hS hF d_In_penaltyAt_20
    · replace hF := hF.2 hc
      refine lv_aload_n hx hb d_In_penaltyAt_10 rfl (lv_at hl 0 rfl) ?_
      refine rs_getR C hH hT h_v0 fk_3_3 tw_243 d_In_penaltyAt_11 (fun h51 => ?_)
      refine lv_iload_n hx hb d_In_penaltyAt_14 rfl (lv_at hl 1 rfl) ?_
      obtain ⟨g52, hF⟩ := hF
      refine rs_dald C hH h51 g52 d_In_penaltyAt_15 ?_
      refine lv_goto hx hb d_In_penaltyAt_16 (tgt := 20) rfl ?_
      exact rs_dret C hH hT hS hF d_In_penaltyAt_20
/-! RouteSpeaker.known()I -/
theorem d_Sp_known_0 : decode prog_1_method_18_code 0 = .ok (.aload_n 0, 1) := by decide +kernel
theorem d_Sp_known_1 : decode prog_1_method_18_code 1 = .ok (.getfield 10, 3) := by decide +kernel
theorem d_Sp_known_4 : decode prog_1_method_18_code 4 = .ok (.getfield 207, 3) := by decide +kernel
theorem d_Sp_known_7 : decode prog_1_method_18_code 7 = .ok (.ireturn, 1) := by decide +kernel
def F_Sp_known (N : Nat → Nat) (v0 : Nat) (σ : rs_Mem) (Q : Int32 → rs_Mem → Prop) : Prop :=
  (Q (rs_I σ (rs_R σ v0 0) 3) σ)
abbrev y_Sp_known : MethodName := ({ cls := "RouteSpeaker", name := "known", desc := "()I" } : Jvm.MethodName)
theorem rc_Sp_known : rs_Cal y_Sp_known prog_1_method_18_code 1 (some .int) 0 := ⟨tw_523, tw_1, by decide, by decide, by decide +kernel⟩
set_option maxRecDepth 20000 in
theorem J_Sp_known (l : Launch) {G : rs_G} {Bm : Nat} {S : rs_Shp} {v0 : Nat} {σ : rs_Mem} {Q : Int32 → rs_Mem → Prop} (h_v0 : rs_Ok S 1 v0) (hF : F_Sp_known S.2.2 v0 σ Q) :
    Met l y_Sp_known (rs_ws y_Sp_known prog_1_method_18_code 1 (some .int)) { frames := 0, cells := 0, slots := 0, locals := 0 } (rs_P G Bm S σ [.ref (Bm + v0)]) (rs_Qi G Bm S Q) 0 0 (rs_A Bm) := by
  refine rs_met (own := "RouteSpeaker") (by decide) rfl (Nat.le_of_ble_eq_true rfl) (fun p e s m below meth c ls C hl hH hT hS => ?_)
  replace hl : lv_has ls 1 [(0, .ref (Bm + v0))] := hl
  have hx := C.1
  have hb := C.2.1
  unfold F_Sp_known at hF
  refine lv_aload_n hx hb d_Sp_known_0 rfl (lv_at hl 0 rfl) ?_
  refine rs_getR C hH hT h_v0 fk_1_0 tw_320 d_Sp_known_1 (fun h51 => ?_)
  refine rs_getI C hH h51 fk_7_3 tw_42 d_Sp_known_4 ?_
  exact rs_iret C hH hT hS hF d_Sp_known_7
/-! RouteSpeakerModel.thrown()I -/
theorem d_Mo_thrown_0 : decode prog_12_method_2_code 0 = .ok (.aload_n 0, 1) := by decide +kernel
theorem d_Mo_thrown_1 : decode prog_12_method_2_code 1 = .ok (.getfield 126, 3) := by decide +kernel
theorem d_Mo_thrown_4 : decode prog_12_method_2_code 4 = .ok (.ireturn, 1) := by decide +kernel
def F_Mo_thrown (N : Nat → Nat) (v0 : Nat) (σ : rs_Mem) (Q : Int32 → rs_Mem → Prop) : Prop :=
  (Q (rs_I σ v0 0) σ)
abbrev y_Mo_thrown : MethodName := ({ cls := "RouteSpeakerModel", name := "thrown", desc := "()I" } : Jvm.MethodName)
theorem rc_Mo_thrown : rs_Cal y_Mo_thrown prog_12_method_2_code 1 (some .int) 0 := ⟨tw_1026, tw_11, by decide, by decide, by decide +kernel⟩
set_option maxRecDepth 20000 in
theorem J_Mo_thrown (l : Launch) {G : rs_G} {Bm : Nat} {S : rs_Shp} {v0 : Nat} {σ : rs_Mem} {Q : Int32 → rs_Mem → Prop} (h_v0 : rs_Ok S 11 v0) (hF : F_Mo_thrown S.2.2 v0 σ Q) :
    Met l y_Mo_thrown (rs_ws y_Mo_thrown prog_12_method_2_code 1 (some .int)) { frames := 0, cells := 0, slots := 0, locals := 0 } (rs_P G Bm S σ [.ref (Bm + v0)]) (rs_Qi G Bm S Q) 0 0 (rs_A Bm) := by
  refine rs_met (own := "RouteSpeakerModel") (by decide) rfl (Nat.le_of_ble_eq_true rfl) (fun p e s m below meth c ls C hl hH hT hS => ?_)
  replace hl : lv_has ls 1 [(0, .ref (Bm + v0))] := hl
  have hx := C.1
  have hb := C.2.1
  unfold F_Mo_thrown at hF
  refine lv_aload_n hx hb d_Mo_thrown_0 rfl (lv_at hl 0 rfl) ?_
  refine rs_getI C hH h_v0 fk_11_0 tw_899 d_Mo_thrown_1 ?_
  exact rs_iret C hH hT hS hF d_Mo_thrown_4
/-! RouteSpeakerModel.fails(I)I -/
theorem d_Mo_fails_0 : decode prog_12_method_3_code 0 = .ok (.aload_n 0, 1) := by decide +kernel
theorem d_Mo_fails_1 : decode prog_12_method_3_code 1 = .ok (.iload_n 1, 1) := by decide +kernel
theorem d_Mo_fails_2 : decode prog_12_method_3_code 2 = .ok (.putfield 126, 3) := by decide +kernel
theorem d_Mo_fails_5 : decode prog_12_method_3_code 5 = .ok (.iconst 0, 1) := by decide +kernel
theorem d_Mo_fails_6 : decode prog_12_method_3_code 6 = .ok (.ireturn, 1) := by decide +kernel
def F_Mo_fails (N : Nat → Nat) (v0 : Nat) (x1 : Int32) (σ : rs_Mem) (Q : Int32 → rs_Mem → Prop) : Prop :=
  (∀ σ51 : rs_Mem, σ51 = rs_sI σ v0 0 x1 → (Q (0 : Int32) σ51))
abbrev y_Mo_fails : MethodName := ({ cls := "RouteSpeakerModel", name := "fails", desc := "(I)I" } : Jvm.MethodName)
theorem rc_Mo_fails : rs_Cal y_Mo_fails prog_12_method_3_code 2 (some .int) 1 := ⟨tw_1275, tw_11, by decide, by decide, by decide +kernel⟩
set_option maxRecDepth 20000 in
theorem J_Mo_fails (l : Launch) {G : rs_G} {Bm : Nat} {S : rs_Shp} {v0 : Nat} {x1 : Int32} {σ : rs_Mem} {Q : Int32 → rs_Mem → Prop} (h_v0 : rs_Ok S 11 v0) (hF : F_Mo_fails S.2.2 v0 x1 σ Q) :
    Met l y_Mo_fails (rs_ws y_Mo_fails prog_12_method_3_code 2 (some .int)) { frames := 0, cells := 0, slots := 0, locals := 0 } (rs_P G Bm S σ [.ref (Bm + v0), .int x1]) (rs_Qi G Bm S Q) 0 0 (rs_A Bm) := by
  refine rs_met (own := "RouteSpeakerModel") (by decide) rfl (Nat.le_of_ble_eq_true rfl) (fun p e s m below meth c ls C hl hH hT hS => ?_)
  replace hl : lv_has ls 2 [(0, .ref (Bm + v0)), (1, .int x1)] := hl
  have hx := C.1
  have hb := C.2.1
  unfold F_Mo_fails at hF
  refine lv_aload_n hx hb d_Mo_fails_0 rfl (lv_at hl 0 rfl) ?_
  refine lv_iload_n hx hb d_Mo_fails_1 rfl (lv_at hl 1 rfl) ?_
  refine rs_putI C hH hT hS h_v0 fk_11_0 rfl tw_899 d_Mo_fails_2 (fun σ51 H locs eσ51 hH hT hS => ?_)
  replace hF := hF σ51 eσ51
  refine lv_iconst hx hb d_Mo_fails_5 ki_0 ?_
  exact rs_iret C hH hT hS hF d_Mo_fails_6
/-! RouteSpeakerModel.isPeer(I)Z -/
theorem d_Mo_isPeer_0 : decode prog_12_method_4_code 0 = .ok (.iload_n 0, 1) := by decide +kernel
theorem d_Mo_isPeer_1 : decode prog_12_method_4_code 1 = .ok (.ifCond .lt (12), 3) := by decide +kernel
theorem d_Mo_isPeer_4 : decode prog_12_method_4_code 4 = .ok (.iload_n 0, 1) := by decide +kernel
theorem d_Mo_isPeer_5 : decode prog_12_method_4_code 5 = .ok (.iconst 3, 1) := by decide +kernel
theorem d_Mo_isPeer_6 : decode prog_12_method_4_code 6 = .ok (.if_icmp .gt (7), 3) := by decide +kernel
theorem d_Mo_isPeer_9 : decode prog_12_method_4_code 9 = .ok (.iconst 1, 1) := by decide +kernel
theorem d_Mo_isPeer_10 : decode prog_12_method_4_code 10 = .ok (.goto (4), 3) := by decide +kernel
theorem d_Mo_isPeer_13 : decode prog_12_method_4_code 13 = .ok (.iconst 0, 1) := by decide +kernel
theorem d_Mo_isPeer_14 : decode prog_12_method_4_code 14 = .ok (.ireturn, 1) := by decide +kernel
def F_Mo_isPeer (N : Nat → Nat) (x0 : Int32) (σ : rs_Mem) (Q : Int32 → rs_Mem → Prop) : Prop :=
  ((x0 < 0 → (Q (0 : Int32) σ)) ∧ (¬ (x0 < 0) → (((3 : Int32) < x0 → (Q (0 : Int32) σ)) ∧ (¬ ((3 : Int32) < x0) → (Q (1 : Int32) σ)))))
abbrev y_Mo_isPeer : MethodName := ({ cls := "RouteSpeakerModel", name := "isPeer", desc := "(I)Z" } : Jvm.MethodName)
theorem rc_Mo_isPeer : rs_Cal y_Mo_isPeer prog_12_method_4_code 1 (some .boolean) 1 := ⟨tw_1033, tw_11, by decide, by decide, by decide +kernel⟩
set_option maxRecDepth 20000 in
theorem J_Mo_isPeer (l : Launch) {G : rs_G} {Bm : Nat} {S : rs_Shp} {x0 : Int32} {σ : rs_Mem} {Q : Int32 → rs_Mem → Prop} (hF : F_Mo_isPeer S.2.2 x0 σ Q) :
    Met l y_Mo_isPeer (rs_ws y_Mo_isPeer prog_12_method_4_code 1 (some .boolean)) { frames := 0, cells := 0, slots := 0, locals := 0 } (rs_P G Bm S σ [.int x0]) (rs_Qi G Bm S Q) 0 0 (rs_A Bm) := by
  refine rs_met (own := "RouteSpeakerModel") (by decide) rfl (Nat.le_of_ble_eq_true rfl) (fun p e s m below meth c ls C hl hH hT hS => ?_)
  replace hl : lv_has ls 1 [(0, .int x0)] := hl
  have hx := C.1
  have hb := C.2.1
  unfold F_Mo_isPeer at hF
  refine lv_iload_n hx hb d_Mo_isPeer_0 rfl (lv_at hl 0 rfl) ?_
  refine lv_if_lt hx hb d_Mo_isPeer_1 (tgt := 13) rfl (fun hc => ?_) (fun hc => ?_)
  · replace hF := hF.1 hc
    refine lv_iconst hx hb d_Mo_isPeer_13 ki_0 ?_
    exact rs_zret C hH hT hS (by decide) hF d_Mo_isPeer_14
  · replace hF := hF.2 hc
    refine lv_iload_n hx hb d_Mo_isPeer_4 rfl (lv_at hl 0 rfl) ?_
    refine lv_iconst hx hb d_Mo_isPeer_5 ki_3 ?_
    refine lv_icmp_gt hx hb d_Mo_isPeer_6 (tgt := 13) rfl (fun hc => ?_) (fun hc => ?_)
    · replace hF := hF.1 hc
      refine lv_iconst hx hb d_Mo_isPeer_13 ki_0 ?_
      exact rs_zret C hH hT hS (by decide) hF d_Mo_isPeer_14
    · replace hF := hF.2 hc
      refine lv_iconst hx hb d_Mo_isPeer_9 ki_1 ?_
      refine lv_goto hx hb d_Mo_isPeer_10 (tgt := 14) rfl ?_
      exact rs_zret C hH hT hS (by decide) hF d_Mo_isPeer_14
/-! RouteSpeakerModel.isNumber(I)Z -/
theorem d_Mo_isNumber_0 : decode prog_12_method_5_code 0 = .ok (.iload_n 0, 1) := by decide +kernel
theorem d_Mo_isNumber_1 : decode prog_12_method_5_code 1 = .ok (.iconst 1, 1) := by decide +kernel
theorem d_Mo_isNumber_2 : decode prog_12_method_5_code 2 = .ok (.if_icmp .lt (14), 3) := by decide +kernel
theorem d_Mo_isNumber_5 : decode prog_12_method_5_code 5 = .ok (.iload_n 0, 1) := by decide +kernel
theorem d_Mo_isNumber_6 : decode prog_12_method_5_code 6 = .ok (.sipush (250), 3) := by decide +kernel
theorem d_Mo_isNumber_9 : decode prog_12_method_5_code 9 = .ok (.if_icmp .gt (7), 3) := by decide +kernel
theorem d_Mo_isNumber_12 : decode prog_12_method_5_code 12 = .ok (.iconst 1, 1) := by decide +kernel
theorem d_Mo_isNumber_13 : decode prog_12_method_5_code 13 = .ok (.goto (4), 3) := by decide +kernel
theorem d_Mo_isNumber_16 : decode prog_12_method_5_code 16 = .ok (.iconst 0, 1) := by decide +kernel
theorem d_Mo_isNumber_17 : decode prog_12_method_5_code 17 = .ok (.ireturn, 1) := by decide +kernel
def F_Mo_isNumber (N : Nat → Nat) (x0 : Int32) (σ : rs_Mem) (Q : Int32 → rs_Mem → Prop) : Prop :=
  ((x0 < (1 : Int32) → (Q (0 : Int32) σ)) ∧ (¬ (x0 < (1 : Int32)) → (((250 : Int32) < x0 → (Q (0 : Int32) σ)) ∧ (¬ ((250 : Int32) < x0) → (Q (1 : Int32) σ)))))
abbrev y_Mo_isNumber : MethodName := ({ cls := "RouteSpeakerModel", name := "isNumber", desc := "(I)Z" } : Jvm.MethodName)
theorem rc_Mo_isNumber : rs_Cal y_Mo_isNumber prog_12_method_5_code 1 (some .boolean) 1 := ⟨tw_1036, tw_11, by decide, by decide, by decide +kernel⟩
set_option maxRecDepth 20000 in
theorem J_Mo_isNumber (l : Launch) {G : rs_G} {Bm : Nat} {S : rs_Shp} {x0 : Int32} {σ : rs_Mem} {Q : Int32 → rs_Mem → Prop} (hF : F_Mo_isNumber S.2.2 x0 σ Q) :
    Met l y_Mo_isNumber (rs_ws y_Mo_isNumber prog_12_method_5_code 1 (some .boolean)) { frames := 0, cells := 0, slots := 0, locals := 0 } (rs_P G Bm S σ [.int x0]) (rs_Qi G Bm S Q) 0 0 (rs_A Bm) := by
  refine rs_met (own := "RouteSpeakerModel") (by decide) rfl (Nat.le_of_ble_eq_true rfl) (fun p e s m below meth c ls C hl hH hT hS => ?_)
  replace hl : lv_has ls 1 [(0, .int x0)] := hl
  have hx := C.1
  have hb := C.2.1
  unfold F_Mo_isNumber at hF
  refine lv_iload_n hx hb d_Mo_isNumber_0 rfl (lv_at hl 0 rfl) ?_
  refine lv_iconst hx hb d_Mo_isNumber_1 ki_1 ?_
  refine lv_icmp_lt hx hb d_Mo_isNumber_2 (tgt := 16) rfl (fun hc => ?_) (fun hc => ?_)
  · replace hF := hF.1 hc
    refine lv_iconst hx hb d_Mo_isNumber_16 ki_0 ?_
    exact rs_zret C hH hT hS (by decide) hF d_Mo_isNumber_17
  · replace hF := hF.2 hc
    refine lv_iload_n hx hb d_Mo_isNumber_5 rfl (lv_at hl 0 rfl) ?_
    refine lv_sipush hx hb d_Mo_isNumber_6 ks_250 ?_
    refine lv_icmp_gt hx hb d_Mo_isNumber_9 (tgt := 16) rfl (fun hc => ?_) (fun hc => ?_)
    · replace hF := hF.1 hc
      refine lv_iconst hx hb d_Mo_isNumber_16 ki_0 ?_
      exact rs_zret C hH hT hS (by decide) hF d_Mo_isNumber_17
    · replace hF := hF.2 hc
      refine lv_iconst hx hb d_Mo_isNumber_12 ki_1 ?_
      refine lv_goto hx hb d_Mo_isNumber_13 (tgt := 17) rfl ?_
      exact rs_zret C hH hT hS (by decide) hF d_Mo_isNumber_17
/-! RouteSpeakerModel.maskOf(I)I -/
theorem d_Mo_maskOf_0 : decode prog_12_method_6_code 0 = .ok (.sipush (255), 3) := by decide +kernel
theorem d_Mo_maskOf_3 : decode prog_12_method_6_code 3 = .ok (.bipush (8), 2) := by decide +kernel
theorem d_Mo_maskOf_5 : decode prog_12_method_6_code 5 = .ok (.iload_n 0, 1) := by decide +kernel
theorem d_Mo_maskOf_6 : decode prog_12_method_6_code 6 = .ok (.isub, 1) := by decide +kernel
theorem d_Mo_maskOf_7 : decode prog_12_method_6_code 7 = .ok (.ishl, 1) := by decide +kernel
theorem d_Mo_maskOf_8 : decode prog_12_method_6_code 8 = .ok (.sipush (255), 3) := by decide +kernel
theorem d_Mo_maskOf_11 : decode prog_12_method_6_code 11 = .ok (.iand, 1) := by decide +kernel
theorem d_Mo_maskOf_12 : decode prog_12_method_6_code 12 = .ok (.ireturn, 1) := by decide +kernel
def F_Mo_maskOf (N : Nat → Nat) (x0 : Int32) (σ : rs_Mem) (Q : Int32 → rs_Mem → Prop) : Prop :=
  (Q (((255 : Int32) <<< (((8 : Int32) - x0) &&& 31)) &&& (255 : Int32)) σ)
abbrev y_Mo_maskOf : MethodName := ({ cls := "RouteSpeakerModel", name := "maskOf", desc := "(I)I" } : Jvm.MethodName)
theorem rc_Mo_maskOf : rs_Cal y_Mo_maskOf prog_12_method_6_code 1 (some .int) 1 := ⟨tw_1066, tw_11, by decide, by decide, by decide +kernel⟩
set_option maxRecDepth 20000 in
theorem J_Mo_maskOf (l : Launch) {G : rs_G} {Bm : Nat} {S : rs_Shp} {x0 : Int32} {σ : rs_Mem} {Q : Int32 → rs_Mem → Prop} (hF : F_Mo_maskOf S.2.2 x0 σ Q) :
    Met l y_Mo_maskOf (rs_ws y_Mo_maskOf prog_12_method_6_code 1 (some .int)) { frames := 0, cells := 0, slots := 0, locals := 0 } (rs_P G Bm S σ [.int x0]) (rs_Qi G Bm S Q) 0 0 (rs_A Bm) := by
  refine rs_met (own := "RouteSpeakerModel") (by decide) rfl (Nat.le_of_ble_eq_true rfl) (fun p e s m below meth c ls C hl hH hT hS => ?_)
  replace hl : lv_has ls 1 [(0, .int x0)] := hl
  have hx := C.1
  have hb := C.2.1
  unfold F_Mo_maskOf at hF
  refine lv_sipush hx hb d_Mo_maskOf_0 ks_255 ?_
  refine lv_bipush hx hb d_Mo_maskOf_3 kb_8 ?_
  refine lv_iload_n hx hb d_Mo_maskOf_5 rfl (lv_at hl 0 rfl) ?_
  refine lv_isub hx hb d_Mo_maskOf_6 ?_
  refine lv_ishl hx hb d_Mo_maskOf_7 ?_
  refine lv_sipush hx hb d_Mo_maskOf_8 ks_255 ?_
  refine lv_iand hx hb d_Mo_maskOf_11 ?_
  exact rs_iret C hH hT hS hF d_Mo_maskOf_12
/-! RouteSpeakerModel.isPrefix(II)Z -/
theorem d_Mo_isPrefix_0 : decode prog_12_method_7_code 0 = .ok (.iload_n 0, 1) := by decide +kernel
theorem d_Mo_isPrefix_1 : decode prog_12_method_7_code 1 = .ok (.ifCond .lt (34), 3) := by decide +kernel
theorem d_Mo_isPrefix_4 : decode prog_12_method_7_code 4 = .ok (.iload_n 0, 1) := by decide +kernel
theorem d_Mo_isPrefix_5 : decode prog_12_method_7_code 5 = .ok (.bipush (8), 2) := by decide +kernel
theorem d_Mo_isPrefix_7 : decode prog_12_method_7_code 7 = .ok (.if_icmp .gt (28), 3) := by decide +kernel
theorem d_Mo_isPrefix_10 : decode prog_12_method_7_code 10 = .ok (.iload_n 1, 1) := by decide +kernel
theorem d_Mo_isPrefix_11 : decode prog_12_method_7_code 11 = .ok (.ifCond .lt (24), 3) := by decide +kernel
theorem d_Mo_isPrefix_14 : decode prog_12_method_7_code 14 = .ok (.iload_n 1, 1) := by decide +kernel
theorem d_Mo_isPrefix_15 : decode prog_12_method_7_code 15 = .ok (.sipush (255), 3) := by decide +kernel
theorem d_Mo_isPrefix_18 : decode prog_12_method_7_code 18 = .ok (.if_icmp .gt (17), 3) := by decide +kernel
theorem d_Mo_isPrefix_21 : decode prog_12_method_7_code 21 = .ok (.iload_n 1, 1) := by decide +kernel
theorem d_Mo_isPrefix_22 : decode prog_12_method_7_code 22 = .ok (.iload_n 0, 1) := by decide +kernel
theorem d_Mo_isPrefix_23 : decode prog_12_method_7_code 23 = .ok (.invokestatic 130, 3) := by decide +kernel
theorem d_Mo_isPrefix_26 : decode prog_12_method_7_code 26 = .ok (.iand, 1) := by decide +kernel
theorem d_Mo_isPrefix_27 : decode prog_12_method_7_code 27 = .ok (.iload_n 1, 1) := by decide +kernel
theorem d_Mo_isPrefix_28 : decode prog_12_method_7_code 28 = .ok (.if_icmp .ne (7), 3) := by decide +kernel
theorem d_Mo_isPrefix_31 : decode prog_12_method_7_code 31 = .ok (.iconst 1, 1) := by decide +kernel
theorem d_Mo_isPrefix_32 : decode prog_12_method_7_code 32 = .ok (.goto (4), 3) := by decide +kernel
theorem d_Mo_isPrefix_35 : decode prog_12_method_7_code 35 = .ok (.iconst 0, 1) := by decide +kernel
theorem d_Mo_isPrefix_36 : decode prog_12_method_7_code 36 = .ok (.ireturn, 1) := by decide +kernel
def F_Mo_isPrefix (N : Nat → Nat) (x0 : Int32) (x1 : Int32) (σ : rs_Mem) (Q : Int32 → rs_Mem → Prop) : Prop :=
  ((x0 < 0 → (Q (0 : Int32) σ)) ∧ (¬ (x0 < 0) → (((8 : Int32) < x0 → (Q (0 : Int32) σ)) ∧ (¬ ((8 : Int32) < x0) → ((x1 < 0 → (Q (0 : Int32) σ)) ∧ (¬ (x1 < 0) → (((255 : Int32) < x1 → (Q (0 : Int32) σ)) ∧ (¬ ((255 : Int32) < x1) → (F_Mo_maskOf N x0 σ (fun x52 σ51 => ((¬ ((x1 &&& x52) = x1) → (Q (0 : Int32) σ51)) ∧ ((x1 &&& x52) = x1 → (Q (1 : Int32) σ51)))))))))))))
abbrev y_Mo_isPrefix : MethodName := ({ cls := "RouteSpeakerModel", name := "isPrefix", desc := "(II)Z" } : Jvm.MethodName)
theorem rc_Mo_isPrefix : rs_Cal y_Mo_isPrefix prog_12_method_7_code 2 (some .boolean) 2 := ⟨tw_1138, tw_11, by decide, by decide, by decide +kernel⟩
set_option maxRecDepth 20000 in
theorem J_Mo_isPrefix (l : Launch) {G : rs_G} {Bm : Nat} {S : rs_Shp} {x0 : Int32} {x1 : Int32} {σ : rs_Mem} {Q : Int32 → rs_Mem → Prop} (hF : F_Mo_isPrefix S.2.2 x0 x1 σ Q) :
    Met l y_Mo_isPrefix (rs_ws y_Mo_isPrefix prog_12_method_7_code 2 (some .boolean)) { frames := 1, cells := 0, slots := 0, locals := 20 } (rs_P G Bm S σ [.int x0, .int x1]) (rs_Qi G Bm S Q) 0 0 (rs_A Bm) := by
  refine rs_met (own := "RouteSpeakerModel") (by decide) rfl (Nat.le_of_ble_eq_true rfl) (fun p e s m below meth c ls C hl hH hT hS => ?_)
  replace hl : lv_has ls 2 [(0, .int x0), (1, .int x1)] := hl
  have hx := C.1
  have hb := C.2.1
  unfold F_Mo_isPrefix at hF
  refine lv_iload_n hx hb d_Mo_isPrefix_0 rfl (lv_at hl 0 rfl) ?_
  refine lv_if_lt hx hb d_Mo_isPrefix_1 (tgt := 35) rfl (fun hc => ?_) (fun hc => ?_)
  · replace hF := hF.1 hc
    refine lv_iconst hx hb d_Mo_isPrefix_35 ki_0 ?_
    exact rs_zret C hH hT hS (by decide) hF d_Mo_isPrefix_36
  · replace hF := hF.2 hc
    refine lv_iload_n hx hb d_Mo_isPrefix_4 rfl (lv_at hl 0 rfl) ?_
    refine lv_bipush hx hb d_Mo_isPrefix_5 kb_8 ?_
    refine lv_icmp_gt hx hb d_Mo_isPrefix_7 (tgt := 35) rfl (fun hc => ?_) (fun hc => ?_)
    · replace hF := hF.1 hc
      refine lv_iconst hx hb d_Mo_isPrefix_35 ki_0 ?_
      exact rs_zret C hH hT hS (by decide) hF d_Mo_isPrefix_36
    · replace hF := hF.2 hc
      refine lv_iload_n hx hb d_Mo_isPrefix_10 rfl (lv_at hl 1 rfl) ?_
      refine lv_if_lt hx hb d_Mo_isPrefix_11 (tgt := 35) rfl (fun hc => ?_) (fun hc => ?_)
      · replace hF := hF.1 hc
        refine lv_iconst hx hb d_Mo_isPrefix_35 ki_0 ?_
        exact rs_zret C hH hT hS (by decide) hF d_Mo_isPrefix_36
      · replace hF := hF.2 hc
        refine lv_iload_n hx hb d_Mo_isPrefix_14 rfl (lv_at hl 1 rfl) ?_
        refine lv_sipush hx hb d_Mo_isPrefix_15 ks_255 ?_
        refine lv_icmp_gt hx hb d_Mo_isPrefix_18 (tgt := 35) rfl (fun hc => ?_) (fun hc => ?_)
        · replace hF := hF.1 hc
          refine lv_iconst hx hb d_Mo_isPrefix_35 ki_0 ?_
          exact rs_zret C hH hT hS (by decide) hF d_Mo_isPrefix_36
        · replace hF := hF.2 hc
          refine lv_iload_n hx hb d_Mo_isPrefix_21 rfl (lv_at hl 1 rfl) ?_
          refine lv_iload_n hx hb d_Mo_isPrefix_22 rfl (lv_at hl 0 rfl) ?_
          refine rs_ci (rs_runS C hH hT hl (J_Mo_maskOf l hF) rc_Mo_maskOf tw_1064 tw_1065 rfl ⟨⟨rfl, rfl⟩, by decide, by decide, by decide⟩ (Nat.le_of_ble_eq_true rfl) rfl d_Mo_isPrefix_23) hS (fun x52 σ51 H locs hH hT hS hF => ?_)
          refine lv_iand hx hb d_Mo_isPrefix_26 ?_
          refine lv_iload_n hx hb d_Mo_isPrefix_27 rfl (lv_at hl 1 rfl) ?_
          refine lv_icmp_ne hx hb d_Mo_isPrefix_28 (tgt := 35) rfl (fun hc => ?_) (fun hc => ?_)
          · replace hF := hF.1 hc
            refine lv_iconst hx hb d_Mo_isPrefix_35 ki_0 ?_
            exact rs_zret C hH hT hS (by decide) hF d_Mo_isPrefix_36
          · replace hF := hF.2 hc
            refine lv_iconst hx hb d_Mo_isPrefix_31 ki_1 ?_
            refine lv_goto hx hb d_Mo_isPrefix_32 (tgt := 36) rfl ?_
            exact rs_zret C hH hT hS (by decide) hF d_Mo_isPrefix_36
/-! RouteSpeakerModel.isWithin(IIII)Z -/
theorem d_Mo_isWithin_0 : decode prog_12_method_8_code 0 = .ok (.iload_n 0, 1) := by decide +kernel
theorem d_Mo_isWithin_1 : decode prog_12_method_8_code 1 = .ok (.iload_n 2, 1) := by decide +kernel
theorem d_Mo_isWithin_2 : decode prog_12_method_8_code 2 = .ok (.if_icmp .lt (17), 3) := by decide +kernel
theorem d_Mo_isWithin_5 : decode prog_12_method_8_code 5 = .ok (.iload_n 1, 1) := by decide +kernel
theorem d_Mo_isWithin_6 : decode prog_12_method_8_code 6 = .ok (.iload_n 2, 1) := by decide +kernel
theorem d_Mo_isWithin_7 : decode prog_12_method_8_code 7 = .ok (.invokestatic 130, 3) := by decide +kernel
theorem d_Mo_isWithin_10 : decode prog_12_method_8_code 10 = .ok (.iand, 1) := by decide +kernel
theorem d_Mo_isWithin_11 : decode prog_12_method_8_code 11 = .ok (.iload_n 3, 1) := by decide +kernel
theorem d_Mo_isWithin_12 : decode prog_12_method_8_code 12 = .ok (.if_icmp .ne (7), 3) := by decide +kernel
theorem d_Mo_isWithin_15 : decode prog_12_method_8_code 15 = .ok (.iconst 1, 1) := by decide +kernel
theorem d_Mo_isWithin_16 : decode prog_12_method_8_code 16 = .ok (.goto (4), 3) := by decide +kernel
theorem d_Mo_isWithin_19 : decode prog_12_method_8_code 19 = .ok (.iconst 0, 1) := by decide +kernel
theorem d_Mo_isWithin_20 : decode prog_12_method_8_code 20 = .ok (.ireturn, 1) := by decide +kernel
def F_Mo_isWithin (N : Nat → Nat) (x0 : Int32) (x1 : Int32) (x2 : Int32) (x3 : Int32) (σ : rs_Mem) (Q : Int32 → rs_Mem → Prop) : Prop :=
  ((x0 < x2 → (Q (0 : Int32) σ)) ∧ (¬ (x0 < x2) → (F_Mo_maskOf N x2 σ (fun x52 σ51 => ((¬ ((x1 &&& x52) = x3) → (Q (0 : Int32) σ51)) ∧ ((x1 &&& x52) = x3 → (Q (1 : Int32) σ51)))))))
abbrev y_Mo_isWithin : MethodName := ({ cls := "RouteSpeakerModel", name := "isWithin", desc := "(IIII)Z" } : Jvm.MethodName)
theorem rc_Mo_isWithin : rs_Cal y_Mo_isWithin prog_12_method_8_code 4 (some .boolean) 4 := ⟨tw_1063, tw_11, by decide, by decide, by decide +kernel⟩
set_option maxRecDepth 20000 in
theorem J_Mo_isWithin (l : Launch) {G : rs_G} {Bm : Nat} {S : rs_Shp} {x0 : Int32} {x1 : Int32} {x2 : Int32} {x3 : Int32} {σ : rs_Mem} {Q : Int32 → rs_Mem → Prop} (hF : F_Mo_isWithin S.2.2 x0 x1 x2 x3 σ Q) :
    Met l y_Mo_isWithin (rs_ws y_Mo_isWithin prog_12_method_8_code 4 (some .boolean)) { frames := 1, cells := 0, slots := 0, locals := 20 } (rs_P G Bm S σ [.int x0, .int x1, .int x2, .int x3]) (rs_Qi G Bm S Q) 0 0 (rs_A Bm) := by
  refine rs_met (own := "RouteSpeakerModel") (by decide) rfl (Nat.le_of_ble_eq_true rfl) (fun p e s m below meth c ls C hl hH hT hS => ?_)
  replace hl : lv_has ls 4 [(0, .int x0), (1, .int x1), (2, .int x2), (3, .int x3)] := hl
  have hx := C.1
  have hb := C.2.1
  unfold F_Mo_isWithin at hF
  refine lv_iload_n hx hb d_Mo_isWithin_0 rfl (lv_at hl 0 rfl) ?_
  refine lv_iload_n hx hb d_Mo_isWithin_1 rfl (lv_at hl 2 rfl) ?_
  refine lv_icmp_lt hx hb d_Mo_isWithin_2 (tgt := 19) rfl (fun hc => ?_) (fun hc => ?_)
  · replace hF := hF.1 hc
    refine lv_iconst hx hb d_Mo_isWithin_19 ki_0 ?_
    exact rs_zret C hH hT hS (by decide) hF d_Mo_isWithin_20
  · replace hF := hF.2 hc
    refine lv_iload_n hx hb d_Mo_isWithin_5 rfl (lv_at hl 1 rfl) ?_
    refine lv_iload_n hx hb d_Mo_isWithin_6 rfl (lv_at hl 2 rfl) ?_
    refine rs_ci (rs_runS C hH hT hl (J_Mo_maskOf l hF) rc_Mo_maskOf tw_1064 tw_1065 rfl ⟨⟨rfl, rfl⟩, by decide, by decide, by decide⟩ (Nat.le_of_ble_eq_true rfl) rfl d_Mo_isWithin_7) hS (fun x52 σ51 H locs hH hT hS hF => ?_)
    refine lv_iand hx hb d_Mo_isWithin_10 ?_
    refine lv_iload_n hx hb d_Mo_isWithin_11 rfl (lv_at hl 3 rfl) ?_
    refine lv_icmp_ne hx hb d_Mo_isWithin_12 (tgt := 19) rfl (fun hc => ?_) (fun hc => ?_)
    · replace hF := hF.1 hc
      refine lv_iconst hx hb d_Mo_isWithin_19 ki_0 ?_
      exact rs_zret C hH hT hS (by decide) hF d_Mo_isWithin_20
    · replace hF := hF.2 hc
      refine lv_iconst hx hb d_Mo_isWithin_15 ki_1 ?_
      refine lv_goto hx hb d_Mo_isWithin_16 (tgt := 20) rfl ?_
      exact rs_zret C hH hT hS (by decide) hF d_Mo_isWithin_20
