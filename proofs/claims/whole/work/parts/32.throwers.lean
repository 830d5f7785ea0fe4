theorem th_61_63_1 : rs_thw "RouteSpeaker" 61 63 1 = true := by decide +kernel
theorem th_71_73_2 : rs_thw "RouteSpeaker" 71 73 2 = true := by decide +kernel
theorem th_144_146_3 : rs_thw "RouteSpeaker" 144 146 3 = true := by decide +kernel
/-! RouteSpeaker.peer(III)V -/
theorem d_Sp_peer_0 : decode prog_1_method_2_code 0 = .ok (.iload_n 1, 1) := by decide +kernel
theorem d_Sp_peer_1 : decode prog_1_method_2_code 1 = .ok (.invokestatic 57, 3) := by decide +kernel
theorem d_Sp_peer_4 : decode prog_1_method_2_code 4 = .ok (.ifCond .eq (12), 3) := by decide +kernel
theorem d_Sp_peer_7 : decode prog_1_method_2_code 7 = .ok (.iload_n 2, 1) := by decide +kernel
theorem d_Sp_peer_8 : decode prog_1_method_2_code 8 = .ok (.ifCond .lt (8), 3) := by decide +kernel
theorem d_Sp_peer_11 : decode prog_1_method_2_code 11 = .ok (.iload_n 2, 1) := by decide +kernel
theorem d_Sp_peer_12 : decode prog_1_method_2_code 12 = .ok (.iconst 2, 1) := by decide +kernel
theorem d_Sp_peer_13 : decode prog_1_method_2_code 13 = .ok (.if_icmp .le (11), 3) := by decide +kernel
theorem d_Sp_peer_16 : decode prog_1_method_2_code 16 = .ok (.new 61, 3) := by decide +kernel
theorem d_Sp_peer_19 : decode prog_1_method_2_code 19 = .ok (.dup, 1) := by decide +kernel
theorem d_Sp_peer_20 : decode prog_1_method_2_code 20 = .ok (.invokespecial 63, 3) := by decide +kernel
theorem d_Sp_peer_23 : decode prog_1_method_2_code 23 = .ok (.athrow, 1) := by decide +kernel
theorem d_Sp_peer_24 : decode prog_1_method_2_code 24 = .ok (.iload_n 2, 1) := by decide +kernel
theorem d_Sp_peer_25 : decode prog_1_method_2_code 25 = .ok (.ifCond .ne (7), 3) := by decide +kernel
theorem d_Sp_peer_28 : decode prog_1_method_2_code 28 = .ok (.iconst 1, 1) := by decide +kernel
theorem d_Sp_peer_29 : decode prog_1_method_2_code 29 = .ok (.goto (4), 3) := by decide +kernel
theorem d_Sp_peer_32 : decode prog_1_method_2_code 32 = .ok (.iconst 0, 1) := by decide +kernel
theorem d_Sp_peer_33 : decode prog_1_method_2_code 33 = .ok (.istore 4, 2) := by decide +kernel
theorem d_Sp_peer_35 : decode prog_1_method_2_code 35 = .ok (.iload 4, 2) := by decide +kernel
theorem d_Sp_peer_37 : decode prog_1_method_2_code 37 = .ok (.ifCond .eq (24), 3) := by decide +kernel
theorem d_Sp_peer_40 : decode prog_1_method_2_code 40 = .ok (.iload_n 3, 1) := by decide +kernel
theorem d_Sp_peer_41 : decode prog_1_method_2_code 41 = .ok (.invokestatic 64, 3) := by decide +kernel
theorem d_Sp_peer_44 : decode prog_1_method_2_code 44 = .ok (.ifCond .eq (9), 3) := by decide +kernel
theorem d_Sp_peer_47 : decode prog_1_method_2_code 47 = .ok (.iload_n 3, 1) := by decide +kernel
theorem d_Sp_peer_48 : decode prog_1_method_2_code 48 = .ok (.bipush (100), 2) := by decide +kernel
theorem d_Sp_peer_50 : decode prog_1_method_2_code 50 = .ok (.if_icmp .ne (11), 3) := by decide +kernel
theorem d_Sp_peer_53 : decode prog_1_method_2_code 53 = .ok (.new 61, 3) := by decide +kernel
theorem d_Sp_peer_56 : decode prog_1_method_2_code 56 = .ok (.dup, 1) := by decide +kernel
theorem d_Sp_peer_57 : decode prog_1_method_2_code 57 = .ok (.invokespecial 63, 3) := by decide +kernel
theorem d_Sp_peer_60 : decode prog_1_method_2_code 60 = .ok (.athrow, 1) := by decide +kernel
theorem d_Sp_peer_61 : decode prog_1_method_2_code 61 = .ok (.aload_n 0, 1) := by decide +kernel
theorem d_Sp_peer_62 : decode prog_1_method_2_code 62 = .ok (.getfield 18, 3) := by decide +kernel
theorem d_Sp_peer_65 : decode prog_1_method_2_code 65 = .ok (.iload_n 1, 1) := by decide +kernel
theorem d_Sp_peer_66 : decode prog_1_method_2_code 66 = .ok (.aaload, 1) := by decide +kernel
theorem d_Sp_peer_67 : decode prog_1_method_2_code 67 = .ok (.invokevirtual 67, 3) := by decide +kernel
theorem d_Sp_peer_70 : decode prog_1_method_2_code 70 = .ok (.ifCond .ne (11), 3) := by decide +kernel
theorem d_Sp_peer_73 : decode prog_1_method_2_code 73 = .ok (.new 71, 3) := by decide +kernel
theorem d_Sp_peer_76 : decode prog_1_method_2_code 76 = .ok (.dup, 1) := by decide +kernel
theorem d_Sp_peer_77 : decode prog_1_method_2_code 77 = .ok (.invokespecial 73, 3) := by decide +kernel
theorem d_Sp_peer_80 : decode prog_1_method_2_code 80 = .ok (.athrow, 1) := by decide +kernel
theorem d_Sp_peer_81 : decode prog_1_method_2_code 81 = .ok (.aload_n 0, 1) := by decide +kernel
theorem d_Sp_peer_82 : decode prog_1_method_2_code 82 = .ok (.getfield 18, 3) := by decide +kernel
theorem d_Sp_peer_85 : decode prog_1_method_2_code 85 = .ok (.iload_n 1, 1) := by decide +kernel
theorem d_Sp_peer_86 : decode prog_1_method_2_code 86 = .ok (.aaload, 1) := by decide +kernel
theorem d_Sp_peer_87 : decode prog_1_method_2_code 87 = .ok (.iload_n 2, 1) := by decide +kernel
theorem d_Sp_peer_88 : decode prog_1_method_2_code 88 = .ok (.putfield 74, 3) := by decide +kernel
theorem d_Sp_peer_91 : decode prog_1_method_2_code 91 = .ok (.aload_n 0, 1) := by decide +kernel
theorem d_Sp_peer_92 : decode prog_1_method_2_code 92 = .ok (.getfield 18, 3) := by decide +kernel
theorem d_Sp_peer_95 : decode prog_1_method_2_code 95 = .ok (.iload_n 1, 1) := by decide +kernel
theorem d_Sp_peer_96 : decode prog_1_method_2_code 96 = .ok (.aaload, 1) := by decide +kernel
theorem d_Sp_peer_97 : decode prog_1_method_2_code 97 = .ok (.iload 4, 2) := by decide +kernel
theorem d_Sp_peer_99 : decode prog_1_method_2_code 99 = .ok (.ifCond .eq (7), 3) := by decide +kernel
theorem d_Sp_peer_102 : decode prog_1_method_2_code 102 = .ok (.iload_n 3, 1) := by decide +kernel
theorem d_Sp_peer_103 : decode prog_1_method_2_code 103 = .ok (.goto (5), 3) := by decide +kernel
theorem d_Sp_peer_106 : decode prog_1_method_2_code 106 = .ok (.bipush (100), 2) := by decide +kernel
theorem d_Sp_peer_108 : decode prog_1_method_2_code 108 = .ok (.putfield 77, 3) := by decide +kernel
theorem d_Sp_peer_111 : decode prog_1_method_2_code 111 = .ok (.return_, 1) := by decide +kernel
def B_Sp_peer_61 (N : Nat → Nat) (Q : rs_Mem → Prop) (QT : Nat → rs_Mem → Prop) (v0 : Nat) (x1 : Int32) (x2 : Int32) (x3 : Int32) (x4 : Int32) (σ : rs_Mem) : Prop :=
  (vp_in x1 (N (rs_R σ v0 1)) ∧ (F_Pe_isIdle N (rs_R σ (rs_R σ v0 1) x1.toNatClampNeg) σ (fun x55 σ54 => ((¬ (x55 = 0) → (vp_in x1 (N (rs_R σ54 v0 1)) ∧ (∀ σ59 : rs_Mem, σ59 = rs_sI σ54 (rs_R σ54 (rs_R σ54 v0 1) x1.toNatClampNeg) 0 x2 → (vp_in x1 (N (rs_R σ59 v0 1)) ∧ ((x4 = 0 → (∀ σ63 : rs_Mem, σ63 = rs_sI σ59 (rs_R σ59 (rs_R σ59 v0 1) x1.toNatClampNeg) 1 (100 : Int32) → (Q σ63))) ∧ (¬ (x4 = 0) → (∀ σ63 : rs_Mem, σ63 = rs_sI σ59 (rs_R σ59 (rs_R σ59 v0 1) x1.toNatClampNeg) 1 x3 → (Q σ63)))))))) ∧ (x55 = 0 → (QT 2 σ54))))))
def B_Sp_peer_33 (N : Nat → Nat) (Q : rs_Mem → Prop) (QT : Nat → rs_Mem → Prop) (v0 : Nat) (x1 : Int32) (x2 : Int32) (x3 : Int32) (y0 : Int32) (σ : rs_Mem) : Prop :=
  ((y0 = 0 → (B_Sp_peer_61 N Q QT v0 x1 x2 x3 y0 σ)) ∧ (¬ (y0 = 0) → (F_Sp_isNumber N x3 σ (fun x52 σ51 => ((x52 = 0 → (QT 1 σ51)) ∧ (¬ (x52 = 0) → ((¬ (x3 = (100 : Int32)) → (B_Sp_peer_61 N Q QT v0 x1 x2 x3 y0 σ51)) ∧ (x3 = (100 : Int32) → (QT 1 σ51)))))))))
def F_Sp_peer (N : Nat → Nat) (v0 : Nat) (x1 : Int32) (x2 : Int32) (x3 : Int32) (σ : rs_Mem) (Q : rs_Mem → Prop) (QT : Nat → rs_Mem → Prop) : Prop :=
  (F_Sp_isPeer N x1 σ (fun x52 σ51 => ((x52 = 0 → (QT 1 σ51)) ∧ (¬ (x52 = 0) → ((x2 < 0 → (QT 1 σ51)) ∧ (¬ (x2 < 0) → ((x2 ≤ (2 : Int32) → ((¬ (x2 = 0) → (B_Sp_peer_33 N Q QT v0 x1 x2 x3 (0 : Int32) σ51)) ∧ (x2 = 0 → (B_Sp_peer_33 N Q QT v0 x1 x2 x3 (1 : Int32) σ51)))) ∧ (¬ (x2 ≤ (2 : Int32)) → (QT 1 σ51)))))))))
set_option maxRecDepth 20000 in
theorem JB_Sp_peer_61 {p : Program} {l : Launch} {e : Env} {s : State} {m : MethodId} {args : Array Value} {below : List Frame} {meth : Method} {c : Code} {G : rs_G} {Bm : Nat} {S : rs_Shp} {Q : rs_Mem → Prop} {QT : Nat → rs_Mem → Prop} (C : rs_C "RouteSpeaker" prog_1_method_2_code 5 none G p s m meth c args) (hXC : rs_XC l Bm s c) (v0 : Nat) (x1 : Int32) (x2 : Int32) (x3 : Int32) (x4 : Int32) (σ : rs_Mem) (H : Heap) (locs : List Loc) (ls : Array Slot) (h_v0 : rs_Ok S 1 v0) (hH : rs_H G Bm S σ H) (hT : rs_T S σ) (hS : va_S (rs_A Bm) s.heap H locs) (hl : lv_has ls 5 [(0, .ref (Bm + v0)), (1, .int x1), (2, .int x2), (3, .int x3), (4, .int x4)]) (hF : B_Sp_peer_61 S.2.2 Q QT v0 x1 x2 x3 x4 σ) :
    W p l e { frames := 6, cells := 1, slots := 6, locals := 110 } s m args below meth c H locs 0 0 (rs_MQ below (rs_ET G Bm S (rs_Qv G Bm S Q) QT) args s) (F0 m 61 ls []) := by
  have hx := C.1
  have hb := C.2.1
  unfold B_Sp_peer_61 at hF
  refine lv_aload_n hx hb d_Sp_peer_61 rfl (lv_at hl 0 rfl) ?_
  refine rs_getR C hH hT h_v0 fk_1_1 tw_321 d_Sp_peer_62 (fun h51 => ?_)
  refine lv_iload_n hx hb d_Sp_peer_65 rfl (lv_at hl 1 rfl) ?_
  obtain ⟨g52, hF⟩ := hF
  refine rs_aald C hH hT h51 ak_24 g52 d_Sp_peer_66 (fun h53 => ?_)
  refine rs_ci (rs_runV C hH hT hl (J_Pe_isIdle l h53 hF) rc_Pe_isIdle tw_599 tw_600 tw_601 h53 ⟨rfl, by decide, by decide⟩ rfl ⟨⟨rfl, rfl⟩, by decide, by decide, by decide⟩ (Nat.le_of_ble_eq_true rfl) rfl d_Sp_peer_67) hS (fun x55 σ54 H locs hH hT hS hF => ?_)
  refine lv_if_ne hx hb d_Sp_peer_70 (tgt := 81) rfl (fun hc => ?_) (fun hc => ?_)
  · replace hF := hF.1 hc
    refine lv_aload_n hx hb d_Sp_peer_81 rfl (lv_at hl 0 rfl) ?_
    refine rs_getR C hH hT h_v0 fk_1_1 tw_321 d_Sp_peer_82 (fun h56 => ?_)
    refine lv_iload_n hx hb d_Sp_peer_85 rfl (lv_at hl 1 rfl) ?_
    obtain ⟨g57, hF⟩ := hF
    refine rs_aald C hH hT h56 ak_24 g57 d_Sp_peer_86 (fun h58 => ?_)
    refine lv_iload_n hx hb d_Sp_peer_87 rfl (lv_at hl 2 rfl) ?_
    refine rs_putI C hH hT hS h58 fk_6_0 rfl tw_255 d_Sp_peer_88 (fun σ59 H locs eσ59 hH hT hS => ?_)
    replace hF := hF σ59 eσ59
    refine lv_aload_n hx hb d_Sp_peer_91 rfl (lv_at hl 0 rfl) ?_
    refine rs_getR C hH hT h_v0 fk_1_1 tw_321 d_Sp_peer_92 (fun h60 => ?_)
    refine lv_iload_n hx hb d_Sp_peer_95 rfl (lv_at hl 1 rfl) ?_
    obtain ⟨g61, hF⟩ := hF
    refine rs_aald C hH hT h60 ak_24 g61 d_Sp_peer_96 (fun h62 => ?_)
    refine lv_iload hx hb d_Sp_peer_97 (lv_at hl 4 rfl) ?_
    refine lv_if_eq hx hb d_Sp_peer_99 (tgt := 106) rfl (fun hc => ?_) (fun hc => ?_)
    · replace hF := hF.1 hc
      refine lv_bipush hx hb d_Sp_peer_106 kb_100 ?_
      refine rs_putI C hH hT hS h62 fk_6_1 rfl tw_258 d_Sp_peer_108 (fun σ63 H locs eσ63 hH hT hS => ?_)
      replace hF := hF σ63 eσ63
      exact rs_toT (rs_vret C hH hT hS hF d_Sp_peer_111)
    · replace hF := hF.2 hc
      refine lv_iload_n hx hb d_Sp_peer_102 rfl (lv_at hl 3 rfl) ?_
      refine lv_goto hx hb d_Sp_peer_103 (tgt := 108) rfl ?_
      refine rs_putI C hH hT hS h62 fk_6_1 rfl tw_258 d_Sp_peer_108 (fun σ63 H locs eσ63 hH hT hS => ?_)
      replace hF := hF σ63 eσ63
      exact rs_toT (rs_vret C hH hT hS hF d_Sp_peer_111)
  · replace hF := hF.2 hc
    exact rs_throw C hXC hH hT hS th_71_73_2 ⟨⟨by decide, by decide⟩, by decide, Nat.le_of_ble_eq_true rfl⟩ hl.1 d_Sp_peer_73 d_Sp_peer_76 d_Sp_peer_77 d_Sp_peer_80 hF
set_option maxRecDepth 20000 in
theorem JB_Sp_peer_33 {p : Program} {l : Launch} {e : Env} {s : State} {m : MethodId} {args : Array Value} {below : List Frame} {meth : Method} {c : Code} {G : rs_G} {Bm : Nat} {S : rs_Shp} {Q : rs_Mem → Prop} {QT : Nat → rs_Mem → Prop} (C : rs_C "RouteSpeaker" prog_1_method_2_code 5 none G p s m meth c args) (hXC : rs_XC l Bm s c) (v0 : Nat) (x1 : Int32) (x2 : Int32) (x3 : Int32) (y0 : Int32) (σ : rs_Mem) (H : Heap) (locs : List Loc) (ls : Array Slot) (h_v0 : rs_Ok S 1 v0) (hH : rs_H G Bm S σ H) (hT : rs_T S σ) (hS : va_S (rs_A Bm) s.heap H locs) (hl : lv_has ls 5 [(0, .ref (Bm + v0)), (1, .int x1), (2, .int x2), (3, .int x3)]) (hF : B_Sp_peer_33 S.2.2 Q QT v0 x1 x2 x3 y0 σ) :
    W p l e { frames := 6, cells := 1, slots := 6, locals := 110 } s m args below meth c H locs 0 0 (rs_MQ below (rs_ET G Bm S (rs_Qv G Bm S Q) QT) args s) (F0 m 33 ls [.int y0]) := by
  have hx := C.1
  have hb := C.2.1
  unfold B_Sp_peer_33 at hF
  refine lv_istore hx hb d_Sp_peer_33 hl (by decide) (lv' := [(4, .int y0), (0, .ref (Bm + v0)), (1, .int x1), (2, .int x2), (3, .int x3)]) rfl (fun ls hl => ?_)
  refine lv_iload hx hb d_Sp_peer_35 (lv_at hl 0 rfl) ?_
  refine lv_if_eq hx hb d_Sp_peer_37 (tgt := 61) rfl (fun hc => ?_) (fun hc => ?_)
  · replace hF := hF.1 hc
    exact JB_Sp_peer_61 C hXC v0 x1 x2 x3 y0 σ _ _ _ h_v0 hH hT hS (lv_sub hl [1, 2, 3, 4, 0] rfl) hF
  · replace hF := hF.2 hc
    refine lv_iload_n hx hb d_Sp_peer_40 rfl (lv_at hl 4 rfl) ?_
    refine rs_ci (rs_runS C hH hT hl (J_Sp_isNumber l hF) rc_Sp_isNumber tw_596 tw_597 rfl ⟨⟨rfl, rfl⟩, by decide, by decide, by decide⟩ (Nat.le_of_ble_eq_true rfl) rfl d_Sp_peer_41) hS (fun x52 σ51 H locs hH hT hS hF => ?_)
    refine lv_if_eq hx hb d_Sp_peer_44 (tgt := 53) rfl (fun hc => ?_) (fun hc => ?_)
    · replace hF := hF.1 hc
      exact rs_throw C hXC hH hT hS th_61_63_1 ⟨⟨by decide, by decide⟩, by decide, Nat.le_of_ble_eq_true rfl⟩ hl.1 d_Sp_peer_53 d_Sp_peer_56 d_Sp_peer_57 d_Sp_peer_60 hF
    · replace hF := hF.2 hc
      refine lv_iload_n hx hb d_Sp_peer_47 rfl (lv_at hl 4 rfl) ?_
      refine lv_bipush hx hb d_Sp_peer_48 kb_100 ?_
      refine lv_icmp_ne hx hb d_Sp_peer_50 (tgt := 61) rfl (fun hc => ?_) (fun hc => ?_)
      · replace hF := hF.1 hc
        exact JB_Sp_peer_61 C hXC v0 x1 x2 x3 y0 σ51 _ _ _ h_v0 hH hT hS (lv_sub hl [1, 2, 3, 4, 0] rfl) hF
      · replace hF := hF.2 hc
        exact rs_throw C hXC hH hT hS th_61_63_1 ⟨⟨by decide, by decide⟩, by decide, Nat.le_of_ble_eq_true rfl⟩ hl.1 d_Sp_peer_53 d_Sp_peer_56 d_Sp_peer_57 d_Sp_peer_60 hF
abbrev y_Sp_peer : MethodName := ({ cls := "RouteSpeaker", name := "peer", desc := "(III)V" } : Jvm.MethodName)
theorem rc_Sp_peer : rs_Cal y_Sp_peer prog_1_method_2_code 5 none 3 := ⟨tw_532, tw_1, by decide, by decide, by decide +kernel⟩
set_option maxRecDepth 20000 in
theorem J_Sp_peer (l : Launch) (hfl : l.flags = flags0) {G : rs_G} {Bm : Nat} {S : rs_Shp} {v0 : Nat} {x1 : Int32} {x2 : Int32} {x3 : Int32} {σ : rs_Mem} {Q : rs_Mem → Prop} {QT : Nat → rs_Mem → Prop} (h_v0 : rs_Ok S 1 v0) (hF : F_Sp_peer S.2.2 v0 x1 x2 x3 σ Q QT) :
    rs_MetT l y_Sp_peer prog_1_method_2_code 5 none { frames := 6, cells := 1, slots := 6, locals := 110 } G Bm S σ [.ref (Bm + v0), .int x1, .int x2, .int x3] (rs_Qv G Bm S Q) QT := by
  refine rs_metT (own := "RouteSpeaker") hfl (by decide) rfl (Nat.le_of_ble_eq_true rfl) (fun p e s m below meth c ls C hXC hl hH hT hS => ?_)
  replace hl : lv_has ls 5 [(0, .ref (Bm + v0)), (1, .int x1), (2, .int x2), (3, .int x3)] := hl
  have hx := C.1
  have hb := C.2.1
  unfold F_Sp_peer at hF
  refine lv_iload_n hx hb d_Sp_peer_0 rfl (lv_at hl 1 rfl) ?_
  refine rs_ci (rs_runS C hH hT hl (J_Sp_isPeer l hF) rc_Sp_isPeer tw_517 tw_518 rfl ⟨⟨rfl, rfl⟩, by decide, by decide, by decide⟩ (Nat.le_of_ble_eq_true rfl) rfl d_Sp_peer_1) hS (fun x52 σ51 H locs hH hT hS hF => ?_)
  refine lv_if_eq hx hb d_Sp_peer_4 (tgt := 16) rfl (fun hc => ?_) (fun hc => ?_)
  · replace hF := hF.1 hc
    exact rs_throw C hXC hH hT hS th_61_63_1 ⟨⟨by decide, by decide⟩, by decide, Nat.le_of_ble_eq_true rfl⟩ hl.1 d_Sp_peer_16 d_Sp_peer_19 d_Sp_peer_20 d_Sp_peer_23 hF
  · replace hF := hF.2 hc
    refine lv_iload_n hx hb d_Sp_peer_7 rfl (lv_at hl 2 rfl) ?_
    refine lv_if_lt hx hb d_Sp_peer_8 (tgt := 16) rfl (fun hc => ?_) (fun hc => ?_)
    · replace hF := hF.1 hc
      exact rs_throw C hXC hH hT hS th_61_63_1 ⟨⟨by decide, by decide⟩, by decide, Nat.le_of_ble_eq_true rfl⟩ hl.1 d_Sp_peer_16 d_Sp_peer_19 d_Sp_peer_20 d_Sp_peer_23 hF
    · replace hF := hF.2 hc
      refine lv_iload_n hx hb d_Sp_peer_11 rfl (lv_at hl 2 rfl) ?_
      refine lv_iconst hx hb d_Sp_peer_12 ki_2 ?_
      refine lv_icmp_le hx hb d_Sp_peer_13 (tgt := 24) rfl (fun hc => ?_) (fun hc => ?_)
      · replace hF := hF.1 hc
        refine lv_iload_n hx hb d_Sp_peer_24 rfl (lv_at hl 2 rfl) ?_
        refine lv_if_ne hx hb d_Sp_peer_25 (tgt := 32) rfl (fun hc => ?_) (fun hc => ?_)
        · replace hF := hF.1 hc
          refine lv_iconst hx hb d_Sp_peer_32 ki_0 ?_
          exact JB_Sp_peer_33 C hXC v0 x1 x2 x3 (0 : Int32) σ51 _ _ _ h_v0 hH hT hS (lv_sub hl [0, 1, 2, 3] rfl) hF
        · replace hF := hF.2 hc
          refine lv_iconst hx hb d_Sp_peer_28 ki_1 ?_
          refine lv_goto hx hb d_Sp_peer_29 (tgt := 33) rfl ?_
          exact JB_Sp_peer_33 C hXC v0 x1 x2 x3 (1 : Int32) σ51 _ _ _ h_v0 hH hT hS (lv_sub hl [0, 1, 2, 3] rfl) hF
      · replace hF := hF.2 hc
        exact rs_throw C hXC hH hT hS th_61_63_1 ⟨⟨by decide, by decide⟩, by decide, Nat.le_of_ble_eq_true rfl⟩ hl.1 d_Sp_peer_16 d_Sp_peer_19 d_Sp_peer_20 d_Sp_peer_23 hF
/-! RouteSpeaker.rule(IIII)V -/
theorem d_Sp_rule_0 : decode prog_1_method_3_code 0 = .ok (.iload_n 1, 1) := by decide +kernel
theorem d_Sp_rule_1 : decode prog_1_method_3_code 1 = .ok (.invokestatic 57, 3) := by decide +kernel
theorem d_Sp_rule_4 : decode prog_1_method_3_code 4 = .ok (.ifCond .eq (24), 3) := by decide +kernel
theorem d_Sp_rule_7 : decode prog_1_method_3_code 7 = .ok (.iload_n 2, 1) := by decide +kernel
theorem d_Sp_rule_8 : decode prog_1_method_3_code 8 = .ok (.iload_n 3, 1) := by decide +kernel
theorem d_Sp_rule_9 : decode prog_1_method_3_code 9 = .ok (.invokestatic 80, 3) := by decide +kernel
theorem d_Sp_rule_12 : decode prog_1_method_3_code 12 = .ok (.ifCond .eq (16), 3) := by decide +kernel
theorem d_Sp_rule_15 : decode prog_1_method_3_code 15 = .ok (.iload 4, 2) := by decide +kernel
theorem d_Sp_rule_17 : decode prog_1_method_3_code 17 = .ok (.ifCond .lt (11), 3) := by decide +kernel
theorem d_Sp_rule_20 : decode prog_1_method_3_code 20 = .ok (.iload 4, 2) := by decide +kernel
theorem d_Sp_rule_22 : decode prog_1_method_3_code 22 = .ok (.sipush (200), 3) := by decide +kernel
theorem d_Sp_rule_25 : decode prog_1_method_3_code 25 = .ok (.if_icmp .le (11), 3) := by decide +kernel
theorem d_Sp_rule_28 : decode prog_1_method_3_code 28 = .ok (.new 61, 3) := by decide +kernel
theorem d_Sp_rule_31 : decode prog_1_method_3_code 31 = .ok (.dup, 1) := by decide +kernel
theorem d_Sp_rule_32 : decode prog_1_method_3_code 32 = .ok (.invokespecial 63, 3) := by decide +kernel
theorem d_Sp_rule_35 : decode prog_1_method_3_code 35 = .ok (.athrow, 1) := by decide +kernel
theorem d_Sp_rule_36 : decode prog_1_method_3_code 36 = .ok (.aload_n 0, 1) := by decide +kernel
theorem d_Sp_rule_37 : decode prog_1_method_3_code 37 = .ok (.getfield 18, 3) := by decide +kernel
theorem d_Sp_rule_40 : decode prog_1_method_3_code 40 = .ok (.iload_n 1, 1) := by decide +kernel
theorem d_Sp_rule_41 : decode prog_1_method_3_code 41 = .ok (.aaload, 1) := by decide +kernel
theorem d_Sp_rule_42 : decode prog_1_method_3_code 42 = .ok (.getfield 84, 3) := by decide +kernel
theorem d_Sp_rule_45 : decode prog_1_method_3_code 45 = .ok (.iload_n 2, 1) := by decide +kernel
theorem d_Sp_rule_46 : decode prog_1_method_3_code 46 = .ok (.iload_n 3, 1) := by decide +kernel
theorem d_Sp_rule_47 : decode prog_1_method_3_code 47 = .ok (.iload 4, 2) := by decide +kernel
theorem d_Sp_rule_49 : decode prog_1_method_3_code 49 = .ok (.invokevirtual 88, 3) := by decide +kernel
theorem d_Sp_rule_52 : decode prog_1_method_3_code 52 = .ok (.ifCond .ne (11), 3) := by decide +kernel
theorem d_Sp_rule_55 : decode prog_1_method_3_code 55 = .ok (.new 71, 3) := by decide +kernel
theorem d_Sp_rule_58 : decode prog_1_method_3_code 58 = .ok (.dup, 1) := by decide +kernel
theorem d_Sp_rule_59 : decode prog_1_method_3_code 59 = .ok (.invokespecial 73, 3) := by decide +kernel
theorem d_Sp_rule_62 : decode prog_1_method_3_code 62 = .ok (.athrow, 1) := by decide +kernel
theorem d_Sp_rule_63 : decode prog_1_method_3_code 63 = .ok (.aload_n 0, 1) := by decide +kernel
theorem d_Sp_rule_64 : decode prog_1_method_3_code 64 = .ok (.invokevirtual 94, 3) := by decide +kernel
theorem d_Sp_rule_67 : decode prog_1_method_3_code 67 = .ok (.return_, 1) := by decide +kernel
def F_Sp_rule (N : Nat → Nat) (v0 : Nat) (x1 : Int32) (x2 : Int32) (x3 : Int32) (x4 : Int32) (σ : rs_Mem) (Q : rs_Mem → Prop) (QT : Nat → rs_Mem → Prop) : Prop :=
  (F_Sp_isPeer N x1 σ (fun x52 σ51 => ((x52 = 0 → (QT 1 σ51)) ∧ (¬ (x52 = 0) → (F_Sp_isPrefix N x2 x3 σ51 (fun x54 σ53 => ((x54 = 0 → (QT 1 σ53)) ∧ (¬ (x54 = 0) → ((x4 < 0 → (QT 1 σ53)) ∧ (¬ (x4 < 0) → ((x4 ≤ (200 : Int32) → (vp_in x1 (N (rs_R σ53 v0 1)) ∧ (F_Ru_add N (rs_R σ53 (rs_R σ53 (rs_R σ53 v0 1) x1.toNatClampNeg) 5) x2 x3 x4 σ53 (fun x60 σ59 => ((¬ (x60 = 0) → (F_Sp_tellAll N v0 σ59 (fun σ61 => (Q σ61)))) ∧ (x60 = 0 → (QT 2 σ59))))))) ∧ (¬ (x4 ≤ (200 : Int32)) → (QT 1 σ53)))))))))))))
abbrev y_Sp_rule : MethodName := ({ cls := "RouteSpeaker", name := "rule", desc := "(IIII)V" } : Jvm.MethodName)
theorem rc_Sp_rule : rs_Cal y_Sp_rule prog_1_method_3_code 5 none 4 := ⟨tw_624, tw_1, by decide, by decide, by decide +kernel⟩
set_option maxRecDepth 20000 in
theorem J_Sp_rule (l : Launch) (hfl : l.flags = flags0) {G : rs_G} {Bm : Nat} {S : rs_Shp} {v0 : Nat} {x1 : Int32} {x2 : Int32} {x3 : Int32} {x4 : Int32} {σ : rs_Mem} {Q : rs_Mem → Prop} {QT : Nat → rs_Mem → Prop} (h_v0 : rs_Ok S 1 v0) (hF : F_Sp_rule S.2.2 v0 x1 x2 x3 x4 σ Q QT) :
    rs_MetT l y_Sp_rule prog_1_method_3_code 5 none { frames := 6, cells := 1, slots := 6, locals := 140 } G Bm S σ [.ref (Bm + v0), .int x1, .int x2, .int x3, .int x4] (rs_Qv G Bm S Q) QT := by
  refine rs_metT (own := "RouteSpeaker") hfl (by decide) rfl (Nat.le_of_ble_eq_true rfl) (fun p e s m below meth c ls C hXC hl hH hT hS => ?_)
  replace hl : lv_has ls 5 [(0, .ref (Bm + v0)), (1, .int x1), (2, .int x2), (3, .int x3), (4, .int x4)] := hl
  have hx := C.1
  have hb := C.2.1
  unfold F_Sp_rule at hF
  refine lv_iload_n hx hb d_Sp_rule_0 rfl (lv_at hl 1 rfl) ?_
  refine rs_ci (rs_runS C hH hT hl (J_Sp_isPeer l hF) rc_Sp_isPeer tw_517 tw_518 rfl ⟨⟨rfl, rfl⟩, by decide, by decide, by decide⟩ (Nat.le_of_ble_eq_true rfl) rfl d_Sp_rule_1) hS (fun x52 σ51 H locs hH hT hS hF => ?_)
  refine lv_if_eq hx hb d_Sp_rule_4 (tgt := 28) rfl (fun hc => ?_) (fun hc => ?_)
  · replace hF := hF.1 hc
    exact rs_throw C hXC hH hT hS th_61_63_1 ⟨⟨by decide, by decide⟩, by decide, Nat.le_of_ble_eq_true rfl⟩ hl.1 d_Sp_rule_28 d_Sp_rule_31 d_Sp_rule_32 d_Sp_rule_35 hF
  · replace hF := hF.2 hc
    refine lv_iload_n hx hb d_Sp_rule_7 rfl (lv_at hl 2 rfl) ?_
    refine lv_iload_n hx hb d_Sp_rule_8 rfl (lv_at hl 3 rfl) ?_
    refine rs_ci (rs_runS C hH hT hl (J_Sp_isPrefix l hF) rc_Sp_isPrefix tw_625 tw_626 rfl ⟨⟨rfl, rfl⟩, by decide, by decide, by decide⟩ (Nat.le_of_ble_eq_true rfl) rfl d_Sp_rule_9) hS (fun x54 σ53 H locs hH hT hS hF => ?_)
    refine lv_if_eq hx hb d_Sp_rule_12 (tgt := 28) rfl (fun hc => ?_) (fun hc => ?_)
    · replace hF := hF.1 hc
      exact rs_throw C hXC hH hT hS th_61_63_1 ⟨⟨by decide, by decide⟩, by decide, Nat.le_of_ble_eq_true rfl⟩ hl.1 d_Sp_rule_28 d_Sp_rule_31 d_Sp_rule_32 d_Sp_rule_35 hF
    · replace hF := hF.2 hc
      refine lv_iload hx hb d_Sp_rule_15 (lv_at hl 4 rfl) ?_
      refine lv_if_lt hx hb d_Sp_rule_17 (tgt := 28) rfl (fun hc => ?_) (fun hc => ?_)
      · replace hF := hF.1 hc
        exact rs_throw C hXC hH hT hS th_61_63_1 ⟨⟨by decide, by decide⟩, by decide, Nat.le_of_ble_eq_true rfl⟩ hl.1 d_Sp_rule_28 d_Sp_rule_31 d_Sp_rule_32 d_Sp_rule_35 hF
      · replace hF := hF.2 hc
        refine lv_iload hx hb d_Sp_rule_20 (lv_at hl 4 rfl) ?_
        refine lv_sipush hx hb d_Sp_rule_22 ks_200 ?_
        refine lv_icmp_le hx hb d_Sp_rule_25 (tgt := 36) rfl (fun hc => ?_) (fun hc => ?_)
        · replace hF := hF.1 hc
          refine lv_aload_n hx hb d_Sp_rule_36 rfl (lv_at hl 0 rfl) ?_
          refine rs_getR C hH hT h_v0 fk_1_1 tw_321 d_Sp_rule_37 (fun h55 => ?_)
          refine lv_iload_n hx hb d_Sp_rule_40 rfl (lv_at hl 1 rfl) ?_
          obtain ⟨g56, hF⟩ := hF
          refine rs_aald C hH hT h55 ak_24 g56 d_Sp_rule_41 (fun h57 => ?_)
          refine rs_getR C hH hT h57 fk_6_5 tw_265 d_Sp_rule_42 (fun h58 => ?_)
          refine lv_iload_n hx hb d_Sp_rule_45 rfl (lv_at hl 2 rfl) ?_
          refine lv_iload_n hx hb d_Sp_rule_46 rfl (lv_at hl 3 rfl) ?_
          refine lv_iload hx hb d_Sp_rule_47 (lv_at hl 4 rfl) ?_
          refine rs_ci (rs_runV C hH hT hl (J_Ru_add l h58 hF) rc_Ru_add tw_628 tw_629 tw_630 h58 ⟨rfl, by decide, by decide⟩ rfl ⟨⟨rfl, rfl⟩, by decide, by decide, by decide⟩ (Nat.le_of_ble_eq_true rfl) rfl d_Sp_rule_49) hS (fun x60 σ59 H locs hH hT hS hF => ?_)
          refine lv_if_ne hx hb d_Sp_rule_52 (tgt := 63) rfl (fun hc => ?_) (fun hc => ?_)
          · replace hF := hF.1 hc
            refine lv_aload_n hx hb d_Sp_rule_63 rfl (lv_at hl 0 rfl) ?_
            refine rs_cv (rs_runV C hH hT hl (J_Sp_tellAll l h_v0 hF) rc_Sp_tellAll tw_373 tw_375 ts_3 h_v0 ⟨rfl, by decide, by decide⟩ rfl ⟨⟨rfl, rfl⟩, by decide, by decide, by decide⟩ (Nat.le_of_ble_eq_true rfl) rfl d_Sp_rule_64) hS (fun σ61 H locs hH hT hS hF => ?_)
            exact rs_toT (rs_vret C hH hT hS hF d_Sp_rule_67)
          · replace hF := hF.2 hc
            exact rs_throw C hXC hH hT hS th_71_73_2 ⟨⟨by decide, by decide⟩, by decide, Nat.le_of_ble_eq_true rfl⟩ hl.1 d_Sp_rule_55 d_Sp_rule_58 d_Sp_rule_59 d_Sp_rule_62 hF
        · replace hF := hF.2 hc
          exact rs_throw C hXC hH hT hS th_61_63_1 ⟨⟨by decide, by decide⟩, by decide, Nat.le_of_ble_eq_true rfl⟩ hl.1 d_Sp_rule_28 d_Sp_rule_31 d_Sp_rule_32 d_Sp_rule_35 hF
/-! RouteSpeaker.unrule(I)V -/
theorem d_Sp_unrule_0 : decode prog_1_method_4_code 0 = .ok (.iload_n 1, 1) := by decide +kernel
theorem d_Sp_unrule_1 : decode prog_1_method_4_code 1 = .ok (.invokestatic 57, 3) := by decide +kernel
theorem d_Sp_unrule_4 : decode prog_1_method_4_code 4 = .ok (.ifCond .ne (11), 3) := by decide +kernel
theorem d_Sp_unrule_7 : decode prog_1_method_4_code 7 = .ok (.new 61, 3) := by decide +kernel
theorem d_Sp_unrule_10 : decode prog_1_method_4_code 10 = .ok (.dup, 1) := by decide +kernel
theorem d_Sp_unrule_11 : decode prog_1_method_4_code 11 = .ok (.invokespecial 63, 3) := by decide +kernel
theorem d_Sp_unrule_14 : decode prog_1_method_4_code 14 = .ok (.athrow, 1) := by decide +kernel
theorem d_Sp_unrule_15 : decode prog_1_method_4_code 15 = .ok (.aload_n 0, 1) := by decide +kernel
theorem d_Sp_unrule_16 : decode prog_1_method_4_code 16 = .ok (.getfield 18, 3) := by decide +kernel
theorem d_Sp_unrule_19 : decode prog_1_method_4_code 19 = .ok (.iload_n 1, 1) := by decide +kernel
theorem d_Sp_unrule_20 : decode prog_1_method_4_code 20 = .ok (.aaload, 1) := by decide +kernel
theorem d_Sp_unrule_21 : decode prog_1_method_4_code 21 = .ok (.getfield 84, 3) := by decide +kernel
theorem d_Sp_unrule_24 : decode prog_1_method_4_code 24 = .ok (.invokevirtual 97, 3) := by decide +kernel
theorem d_Sp_unrule_27 : decode prog_1_method_4_code 27 = .ok (.aload_n 0, 1) := by decide +kernel
theorem d_Sp_unrule_28 : decode prog_1_method_4_code 28 = .ok (.invokevirtual 94, 3) := by decide +kernel
theorem d_Sp_unrule_31 : decode prog_1_method_4_code 31 = .ok (.return_, 1) := by decide +kernel
def F_Sp_unrule (N : Nat → Nat) (v0 : Nat) (x1 : Int32) (σ : rs_Mem) (Q : rs_Mem → Prop) (QT : Nat → rs_Mem → Prop) : Prop :=
  (F_Sp_isPeer N x1 σ (fun x52 σ51 => ((¬ (x52 = 0) → (vp_in x1 (N (rs_R σ51 v0 1)) ∧ (F_Ru_clear N (rs_R σ51 (rs_R σ51 (rs_R σ51 v0 1) x1.toNatClampNeg) 5) σ51 (fun σ57 => (F_Sp_tellAll N v0 σ57 (fun σ58 => (Q σ58))))))) ∧ (x52 = 0 → (QT 1 σ51)))))
abbrev y_Sp_unrule : MethodName := ({ cls := "RouteSpeaker", name := "unrule", desc := "(I)V" } : Jvm.MethodName)
theorem rc_Sp_unrule : rs_Cal y_Sp_unrule prog_1_method_4_code 2 none 1 := ⟨tw_638, tw_1, by decide, by decide, by decide +kernel⟩
set_option maxRecDepth 20000 in
theorem J_Sp_unrule (l : Launch) (hfl : l.flags = flags0) {G : rs_G} {Bm : Nat} {S : rs_Shp} {v0 : Nat} {x1 : Int32} {σ : rs_Mem} {Q : rs_Mem → Prop} {QT : Nat → rs_Mem → Prop} (h_v0 : rs_Ok S 1 v0) (hF : F_Sp_unrule S.2.2 v0 x1 σ Q QT) :
    rs_MetT l y_Sp_unrule prog_1_method_4_code 2 none { frames := 6, cells := 1, slots := 6, locals := 140 } G Bm S σ [.ref (Bm + v0), .int x1] (rs_Qv G Bm S Q) QT := by
  refine rs_metT (own := "RouteSpeaker") hfl (by decide) rfl (Nat.le_of_ble_eq_true rfl) (fun p e s m below meth c ls C hXC hl hH hT hS => ?_)
  replace hl : lv_has ls 2 [(0, .ref (Bm + v0)), (1, .int x1)] := hl
  have hx := C.1
  have hb := C.2.1
  unfold F_Sp_unrule at hF
  refine lv_iload_n hx hb d_Sp_unrule_0 rfl (lv_at hl 1 rfl) ?_
  refine rs_ci (rs_runS C hH hT hl (J_Sp_isPeer l hF) rc_Sp_isPeer tw_517 tw_518 rfl ⟨⟨rfl, rfl⟩, by decide, by decide, by decide⟩ (Nat.le_of_ble_eq_true rfl) rfl d_Sp_unrule_1) hS (fun x52 σ51 H locs hH hT hS hF => ?_)
  refine lv_if_ne hx hb d_Sp_unrule_4 (tgt := 15) rfl (fun hc => ?_) (fun hc => ?_)
  · replace hF := hF.1 hc
    refine lv_aload_n hx hb d_Sp_unrule_15 rfl (lv_at hl 0 rfl) ?_
    refine rs_getR C hH hT h_v0 fk_1_1 tw_321 d_Sp_unrule_16 (fun h53 => ?_)
    refine lv_iload_n hx hb d_Sp_unrule_19 rfl (lv_at hl 1 rfl) ?_
    obtain ⟨g54, hF⟩ := hF
    refine rs_aald C hH hT h53 ak_24 g54 d_Sp_unrule_20 (fun h55 => ?_)
    refine rs_getR C hH hT h55 fk_6_5 tw_265 d_Sp_unrule_21 (fun h56 => ?_)
    refine rs_cv (rs_runV C hH hT hl (J_Ru_clear l h56 hF) rc_Ru_clear tw_639 tw_640 tw_641 h56 ⟨rfl, by decide, by decide⟩ rfl ⟨⟨rfl, rfl⟩, by decide, by decide, by decide⟩ (Nat.le_of_ble_eq_true rfl) rfl d_Sp_unrule_24) hS (fun σ57 H locs hH hT hS hF => ?_)
    refine lv_aload_n hx hb d_Sp_unrule_27 rfl (lv_at hl 0 rfl) ?_
    refine rs_cv (rs_runV C hH hT hl (J_Sp_tellAll l h_v0 hF) rc_Sp_tellAll tw_373 tw_375 ts_3 h_v0 ⟨rfl, by decide, by decide⟩ rfl ⟨⟨rfl, rfl⟩, by decide, by decide, by decide⟩ (Nat.le_of_ble_eq_true rfl) rfl d_Sp_unrule_28) hS (fun σ58 H locs hH hT hS hF => ?_)
    exact rs_toT (rs_vret C hH hT hS hF d_Sp_unrule_31)
  · replace hF := hF.2 hc
    exact rs_throw C hXC hH hT hS th_61_63_1 ⟨⟨by decide, by decide⟩, by decide, Nat.le_of_ble_eq_true rfl⟩ hl.1 d_Sp_unrule_7 d_Sp_unrule_10 d_Sp_unrule_11 d_Sp_unrule_14 hF
/-! RouteSpeaker.outbound(IIII)V -/
theorem d_Sp_outbound_0 : decode prog_1_method_5_code 0 = .ok (.iload_n 1, 1) := by decide +kernel
theorem d_Sp_outbound_1 : decode prog_1_method_5_code 1 = .ok (.invokestatic 57, 3) := by decide +kernel
theorem d_Sp_outbound_4 : decode prog_1_method_5_code 4 = .ok (.ifCond .eq (12), 3) := by decide +kernel
theorem d_Sp_outbound_7 : decode prog_1_method_5_code 7 = .ok (.iload_n 2, 1) := by decide +kernel
theorem d_Sp_outbound_8 : decode prog_1_method_5_code 8 = .ok (.ifCond .lt (8), 3) := by decide +kernel
theorem d_Sp_outbound_11 : decode prog_1_method_5_code 11 = .ok (.iload_n 2, 1) := by decide +kernel
theorem d_Sp_outbound_12 : decode prog_1_method_5_code 12 = .ok (.iconst 3, 1) := by decide +kernel
theorem d_Sp_outbound_13 : decode prog_1_method_5_code 13 = .ok (.if_icmp .le (11), 3) := by decide +kernel
theorem d_Sp_outbound_16 : decode prog_1_method_5_code 16 = .ok (.new 61, 3) := by decide +kernel
theorem d_Sp_outbound_19 : decode prog_1_method_5_code 19 = .ok (.dup, 1) := by decide +kernel
theorem d_Sp_outbound_20 : decode prog_1_method_5_code 20 = .ok (.invokespecial 63, 3) := by decide +kernel
theorem d_Sp_outbound_23 : decode prog_1_method_5_code 23 = .ok (.athrow, 1) := by decide +kernel
theorem d_Sp_outbound_24 : decode prog_1_method_5_code 24 = .ok (.iload_n 3, 1) := by decide +kernel
theorem d_Sp_outbound_25 : decode prog_1_method_5_code 25 = .ok (.iconst (-1), 1) := by decide +kernel
theorem d_Sp_outbound_26 : decode prog_1_method_5_code 26 = .ok (.if_icmp .eq (20), 3) := by decide +kernel
theorem d_Sp_outbound_29 : decode prog_1_method_5_code 29 = .ok (.iload_n 3, 1) := by decide +kernel
theorem d_Sp_outbound_30 : decode prog_1_method_5_code 30 = .ok (.iload 4, 2) := by decide +kernel
theorem d_Sp_outbound_32 : decode prog_1_method_5_code 32 = .ok (.invokestatic 80, 3) := by decide +kernel
theorem d_Sp_outbound_35 : decode prog_1_method_5_code 35 = .ok (.ifCond .ne (11), 3) := by decide +kernel
theorem d_Sp_outbound_38 : decode prog_1_method_5_code 38 = .ok (.new 61, 3) := by decide +kernel
theorem d_Sp_outbound_41 : decode prog_1_method_5_code 41 = .ok (.dup, 1) := by decide +kernel
theorem d_Sp_outbound_42 : decode prog_1_method_5_code 42 = .ok (.invokespecial 63, 3) := by decide +kernel
theorem d_Sp_outbound_45 : decode prog_1_method_5_code 45 = .ok (.athrow, 1) := by decide +kernel
theorem d_Sp_outbound_46 : decode prog_1_method_5_code 46 = .ok (.aload_n 0, 1) := by decide +kernel
theorem d_Sp_outbound_47 : decode prog_1_method_5_code 47 = .ok (.getfield 18, 3) := by decide +kernel
theorem d_Sp_outbound_50 : decode prog_1_method_5_code 50 = .ok (.iload_n 1, 1) := by decide +kernel
theorem d_Sp_outbound_51 : decode prog_1_method_5_code 51 = .ok (.aaload, 1) := by decide +kernel
theorem d_Sp_outbound_52 : decode prog_1_method_5_code 52 = .ok (.iload_n 2, 1) := by decide +kernel
theorem d_Sp_outbound_53 : decode prog_1_method_5_code 53 = .ok (.putfield 100, 3) := by decide +kernel
theorem d_Sp_outbound_56 : decode prog_1_method_5_code 56 = .ok (.aload_n 0, 1) := by decide +kernel
theorem d_Sp_outbound_57 : decode prog_1_method_5_code 57 = .ok (.getfield 18, 3) := by decide +kernel
theorem d_Sp_outbound_60 : decode prog_1_method_5_code 60 = .ok (.iload_n 1, 1) := by decide +kernel
theorem d_Sp_outbound_61 : decode prog_1_method_5_code 61 = .ok (.aaload, 1) := by decide +kernel
theorem d_Sp_outbound_62 : decode prog_1_method_5_code 62 = .ok (.iload_n 3, 1) := by decide +kernel
theorem d_Sp_outbound_63 : decode prog_1_method_5_code 63 = .ok (.putfield 103, 3) := by decide +kernel
theorem d_Sp_outbound_66 : decode prog_1_method_5_code 66 = .ok (.aload_n 0, 1) := by decide +kernel
theorem d_Sp_outbound_67 : decode prog_1_method_5_code 67 = .ok (.getfield 18, 3) := by decide +kernel
theorem d_Sp_outbound_70 : decode prog_1_method_5_code 70 = .ok (.iload_n 1, 1) := by decide +kernel
theorem d_Sp_outbound_71 : decode prog_1_method_5_code 71 = .ok (.aaload, 1) := by decide +kernel
theorem d_Sp_outbound_72 : decode prog_1_method_5_code 72 = .ok (.iload 4, 2) := by decide +kernel
theorem d_Sp_outbound_74 : decode prog_1_method_5_code 74 = .ok (.putfield 106, 3) := by decide +kernel
theorem d_Sp_outbound_77 : decode prog_1_method_5_code 77 = .ok (.aload_n 0, 1) := by decide +kernel
theorem d_Sp_outbound_78 : decode prog_1_method_5_code 78 = .ok (.invokevirtual 94, 3) := by decide +kernel
theorem d_Sp_outbound_81 : decode prog_1_method_5_code 81 = .ok (.return_, 1) := by decide +kernel
def B_Sp_outbound_46 (N : Nat → Nat) (Q : rs_Mem → Prop) (QT : Nat → rs_Mem → Prop) (v0 : Nat) (x1 : Int32) (x2 : Int32) (x3 : Int32) (x4 : Int32) (σ : rs_Mem) : Prop :=
  (vp_in x1 (N (rs_R σ v0 1)) ∧ (∀ σ54 : rs_Mem, σ54 = rs_sI σ (rs_R σ (rs_R σ v0 1) x1.toNatClampNeg) 2 x2 → (vp_in x1 (N (rs_R σ54 v0 1)) ∧ (∀ σ58 : rs_Mem, σ58 = rs_sI σ54 (rs_R σ54 (rs_R σ54 v0 1) x1.toNatClampNeg) 3 x3 → (vp_in x1 (N (rs_R σ58 v0 1)) ∧ (∀ σ62 : rs_Mem, σ62 = rs_sI σ58 (rs_R σ58 (rs_R σ58 v0 1) x1.toNatClampNeg) 4 x4 → (F_Sp_tellAll N v0 σ62 (fun σ63 => (Q σ63)))))))))
def F_Sp_outbound (N : Nat → Nat) (v0 : Nat) (x1 : Int32) (x2 : Int32) (x3 : Int32) (x4 : Int32) (σ : rs_Mem) (Q : rs_Mem → Prop) (QT : Nat → rs_Mem → Prop) : Prop :=
  (F_Sp_isPeer N x1 σ (fun x52 σ51 => ((x52 = 0 → (QT 1 σ51)) ∧ (¬ (x52 = 0) → ((x2 < 0 → (QT 1 σ51)) ∧ (¬ (x2 < 0) → ((x2 ≤ (3 : Int32) → ((x3 = (-1 : Int32) → (B_Sp_outbound_46 N Q QT v0 x1 x2 x3 x4 σ51)) ∧ (¬ (x3 = (-1 : Int32)) → (F_Sp_isPrefix N x3 x4 σ51 (fun x54 σ53 => ((¬ (x54 = 0) → (B_Sp_outbound_46 N Q QT v0 x1 x2 x3 x4 σ53)) ∧ (x54 = 0 → (QT 1 σ53)))))))) ∧ (¬ (x2 ≤ (3 : Int32)) → (QT 1 σ51)))))))))
set_option maxRecDepth 20000 in
theorem JB_Sp_outbound_46 {p : Program} {l : Launch} {e : Env} {s : State} {m : MethodId} {args : Array Value} {below : List Frame} {meth : Method} {c : Code} {G : rs_G} {Bm : Nat} {S : rs_Shp} {Q : rs_Mem → Prop} {QT : Nat → rs_Mem → Prop} (C : rs_C "RouteSpeaker" prog_1_method_5_code 5 none G p s m meth c args) (hXC : rs_XC l Bm s c) (v0 : Nat) (x1 : Int32) (x2 : Int32) (x3 : Int32) (x4 : Int32) (σ : rs_Mem) (H : Heap) (locs : List Loc) (ls : Array Slot) (h_v0 : rs_Ok S 1 v0) (hH : rs_H G Bm S σ H) (hT : rs_T S σ) (hS : va_S (rs_A Bm) s.heap H locs) (hl : lv_has ls 5 [(0, .ref (Bm + v0)), (1, .int x1), (2, .int x2), (3, .int x3), (4, .int x4)]) (hF : B_Sp_outbound_46 S.2.2 Q QT v0 x1 x2 x3 x4 σ) :
    W p l e { frames := 6, cells := 1, slots := 6, locals := 140 } s m args below meth c H locs 0 0 (rs_MQ below (rs_ET G Bm S (rs_Qv G Bm S Q) QT) args s) (F0 m 46 ls []) := by
  have hx := C.1
  have hb := C.2.1
  unfold B_Sp_outbound_46 at hF
  refine lv_aload_n hx hb d_Sp_outbound_46 rfl (lv_at hl 0 rfl) ?_
  refine rs_getR C hH hT h_v0 fk_1_1 tw_321 d_Sp_outbound_47 (fun h51 => ?_)
  refine lv_iload_n hx hb d_Sp_outbound_50 rfl (lv_at hl 1 rfl) ?_
  obtain ⟨g52, hF⟩ := hF
  refine rs_aald C hH hT h51 ak_24 g52 d_Sp_outbound_51 (fun h53 => ?_)
  refine lv_iload_n hx hb d_Sp_outbound_52 rfl (lv_at hl 2 rfl) ?_
  refine rs_putI C hH hT hS h53 fk_6_2 rfl tw_259 d_Sp_outbound_53 (fun σ54 H locs eσ54 hH hT hS => ?_)
  replace hF := hF σ54 eσ54
  refine lv_aload_n hx hb d_Sp_outbound_56 rfl (lv_at hl 0 rfl) ?_
  refine rs_getR C hH hT h_v0 fk_1_1 tw_321 d_Sp_outbound_57 (fun h55 => ?_)
  refine lv_iload_n hx hb d_Sp_outbound_60 rfl (lv_at hl 1 rfl) ?_
  obtain ⟨g56, hF⟩ := hF
  refine rs_aald C hH hT h55 ak_24 g56 d_Sp_outbound_61 (fun h57 => ?_)
  refine lv_iload_n hx hb d_Sp_outbound_62 rfl (lv_at hl 3 rfl) ?_
  refine rs_putI C hH hT hS h57 fk_6_3 rfl tw_261 d_Sp_outbound_63 (fun σ58 H locs eσ58 hH hT hS => ?_)
  replace hF := hF σ58 eσ58
  refine lv_aload_n hx hb d_Sp_outbound_66 rfl (lv_at hl 0 rfl) ?_
  refine rs_getR C hH hT h_v0 fk_1_1 tw_321 d_Sp_outbound_67 (fun h59 => ?_)
  refine lv_iload_n hx hb d_Sp_outbound_70 rfl (lv_at hl 1 rfl) ?_
  obtain ⟨g60, hF⟩ := hF
  refine rs_aald C hH hT h59 ak_24 g60 d_Sp_outbound_71 (fun h61 => ?_)
  refine lv_iload hx hb d_Sp_outbound_72 (lv_at hl 4 rfl) ?_
  refine rs_putI C hH hT hS h61 fk_6_4 rfl tw_263 d_Sp_outbound_74 (fun σ62 H locs eσ62 hH hT hS => ?_)
  replace hF := hF σ62 eσ62
  refine lv_aload_n hx hb d_Sp_outbound_77 rfl (lv_at hl 0 rfl) ?_
  refine rs_cv (rs_runV C hH hT hl (J_Sp_tellAll l h_v0 hF) rc_Sp_tellAll tw_373 tw_375 ts_3 h_v0 ⟨rfl, by decide, by decide⟩ rfl ⟨⟨rfl, rfl⟩, by decide, by decide, by decide⟩ (Nat.le_of_ble_eq_true rfl) rfl d_Sp_outbound_78) hS (fun σ63 H locs hH hT hS hF => ?_)
  exact rs_toT (rs_vret C hH hT hS hF d_Sp_outbound_81)
abbrev y_Sp_outbound : MethodName := ({ cls := "RouteSpeaker", name := "outbound", desc := "(IIII)V" } : Jvm.MethodName)
theorem rc_Sp_outbound : rs_Cal y_Sp_outbound prog_1_method_5_code 5 none 4 := ⟨tw_649, tw_1, by decide, by decide, by decide +kernel⟩
set_option maxRecDepth 20000 in
theorem J_Sp_outbound (l : Launch) (hfl : l.flags = flags0) {G : rs_G} {Bm : Nat} {S : rs_Shp} {v0 : Nat} {x1 : Int32} {x2 : Int32} {x3 : Int32} {x4 : Int32} {σ : rs_Mem} {Q : rs_Mem → Prop} {QT : Nat → rs_Mem → Prop} (h_v0 : rs_Ok S 1 v0) (hF : F_Sp_outbound S.2.2 v0 x1 x2 x3 x4 σ Q QT) :
    rs_MetT l y_Sp_outbound prog_1_method_5_code 5 none { frames := 6, cells := 1, slots := 6, locals := 140 } G Bm S σ [.ref (Bm + v0), .int x1, .int x2, .int x3, .int x4] (rs_Qv G Bm S Q) QT := by
  refine rs_metT (own := "RouteSpeaker") hfl (by decide) rfl (Nat.le_of_ble_eq_true rfl) (fun p e s m below meth c ls C hXC hl hH hT hS => ?_)
  replace hl : lv_has ls 5 [(0, .ref (Bm + v0)), (1, .int x1), (2, .int x2), (3, .int x3), (4, .int x4)] := hl
  have hx := C.1
  have hb := C.2.1
  unfold F_Sp_outbound at hF
  refine lv_iload_n hx hb d_Sp_outbound_0 rfl (lv_at hl 1 rfl) ?_
  refine rs_ci (rs_runS C hH hT hl (J_Sp_isPeer l hF) rc_Sp_isPeer tw_517 tw_518 rfl ⟨⟨rfl, rfl⟩, by decide, by decide, by decide⟩ (Nat.le_of_ble_eq_true rfl) rfl d_Sp_outbound_1) hS (fun x52 σ51 H locs hH hT hS hF => ?_)
  refine lv_if_eq hx hb d_Sp_outbound_4 (tgt := 16) rfl (fun hc => ?_) (fun hc => ?_)
  · replace hF := hF.1 hc
    exact rs_throw C hXC hH hT hS th_61_63_1 ⟨⟨by decide, by decide⟩, by decide, Nat.le_of_ble_eq_true rfl⟩ hl.1 d_Sp_outbound_16 d_Sp_outbound_19 d_Sp_outbound_20 d_Sp_outbound_23 hF
  · replace hF := hF.2 hc
    refine lv_iload_n hx hb d_Sp_outbound_7 rfl (lv_at hl 2 rfl) ?_
    refine lv_if_lt hx hb d_Sp_outbound_8 (tgt := 16) rfl (fun hc => ?_) (fun hc => ?_)
    · replace hF := hF.1 hc
      exact rs_throw C hXC hH hT hS th_61_63_1 ⟨⟨by decide, by decide⟩, by decide, Nat.le_of_ble_eq_true rfl⟩ hl.1 d_Sp_outbound_16 d_Sp_outbound_19 d_Sp_outbound_20 d_Sp_outbound_23 hF
    · replace hF := hF.2 hc
      refine lv_iload_n hx hb d_Sp_outbound_11 rfl (lv_at hl 2 rfl) ?_
      refine lv_iconst hx hb d_Sp_outbound_12 ki_3 ?_
      refine lv_icmp_le hx hb d_Sp_outbound_13 (tgt := 24) rfl (fun hc => ?_) (fun hc => ?_)
      · replace hF := hF.1 hc
        refine lv_iload_n hx hb d_Sp_outbound_24 rfl (lv_at hl 3 rfl) ?_
        refine lv_iconst hx hb d_Sp_outbound_25 ki_m1 ?_
        refine lv_icmp_eq hx hb d_Sp_outbound_26 (tgt := 46) rfl (fun hc => ?_) (fun hc => ?_)
        · replace hF := hF.1 hc
          exact JB_Sp_outbound_46 C hXC v0 x1 x2 x3 x4 σ51 _ _ _ h_v0 hH hT hS (lv_sub hl [0, 1, 2, 3, 4] rfl) hF
        · replace hF := hF.2 hc
          refine lv_iload_n hx hb d_Sp_outbound_29 rfl (lv_at hl 3 rfl) ?_
          refine lv_iload hx hb d_Sp_outbound_30 (lv_at hl 4 rfl) ?_
          refine rs_ci (rs_runS C hH hT hl (J_Sp_isPrefix l hF) rc_Sp_isPrefix tw_625 tw_626 rfl ⟨⟨rfl, rfl⟩, by decide, by decide, by decide⟩ (Nat.le_of_ble_eq_true rfl) rfl d_Sp_outbound_32) hS (fun x54 σ53 H locs hH hT hS hF => ?_)
          refine lv_if_ne hx hb d_Sp_outbound_35 (tgt := 46) rfl (fun hc => ?_) (fun hc => ?_)
          · replace hF := hF.1 hc
            exact JB_Sp_outbound_46 C hXC v0 x1 x2 x3 x4 σ53 _ _ _ h_v0 hH hT hS (lv_sub hl [0, 1, 2, 3, 4] rfl) hF
          · replace hF := hF.2 hc
            exact rs_throw C hXC hH hT hS th_61_63_1 ⟨⟨by decide, by decide⟩, by decide, Nat.le_of_ble_eq_true rfl⟩ hl.1 d_Sp_outbound_38 d_Sp_outbound_41 d_Sp_outbound_42 d_Sp_outbound_45 hF
      · replace hF := hF.2 hc
        exact rs_throw C hXC hH hT hS th_61_63_1 ⟨⟨by decide, by decide⟩, by decide, Nat.le_of_ble_eq_true rfl⟩ hl.1 d_Sp_outbound_16 d_Sp_outbound_19 d_Sp_outbound_20 d_Sp_outbound_23 hF
/-! RouteSpeaker.originate(II)Z -/
theorem d_Sp_originate_0 : decode prog_1_method_6_code 0 = .ok (.iload_n 1, 1) := by decide +kernel
theorem d_Sp_originate_1 : decode prog_1_method_6_code 1 = .ok (.iload_n 2, 1) := by decide +kernel
theorem d_Sp_originate_2 : decode prog_1_method_6_code 2 = .ok (.invokestatic 80, 3) := by decide +kernel
theorem d_Sp_originate_5 : decode prog_1_method_6_code 5 = .ok (.ifCond .ne (11), 3) := by decide +kernel
theorem d_Sp_originate_8 : decode prog_1_method_6_code 8 = .ok (.new 61, 3) := by decide +kernel
theorem d_Sp_originate_11 : decode prog_1_method_6_code 11 = .ok (.dup, 1) := by decide +kernel
theorem d_Sp_originate_12 : decode prog_1_method_6_code 12 = .ok (.invokespecial 63, 3) := by decide +kernel
theorem d_Sp_originate_15 : decode prog_1_method_6_code 15 = .ok (.athrow, 1) := by decide +kernel
theorem d_Sp_originate_16 : decode prog_1_method_6_code 16 = .ok (.aload_n 0, 1) := by decide +kernel
theorem d_Sp_originate_17 : decode prog_1_method_6_code 17 = .ok (.getfield 10, 3) := by decide +kernel
theorem d_Sp_originate_20 : decode prog_1_method_6_code 20 = .ok (.iload_n 1, 1) := by decide +kernel
theorem d_Sp_originate_21 : decode prog_1_method_6_code 21 = .ok (.iload_n 2, 1) := by decide +kernel
theorem d_Sp_originate_22 : decode prog_1_method_6_code 22 = .ok (.invokevirtual 109, 3) := by decide +kernel
theorem d_Sp_originate_25 : decode prog_1_method_6_code 25 = .ok (.istore_n 3, 1) := by decide +kernel
theorem d_Sp_originate_26 : decode prog_1_method_6_code 26 = .ok (.iload_n 3, 1) := by decide +kernel
theorem d_Sp_originate_27 : decode prog_1_method_6_code 27 = .ok (.iconst (-1), 1) := by decide +kernel
theorem d_Sp_originate_28 : decode prog_1_method_6_code 28 = .ok (.if_icmp .ne (11), 3) := by decide +kernel
theorem d_Sp_originate_31 : decode prog_1_method_6_code 31 = .ok (.new 71, 3) := by decide +kernel
theorem d_Sp_originate_34 : decode prog_1_method_6_code 34 = .ok (.dup, 1) := by decide +kernel
theorem d_Sp_originate_35 : decode prog_1_method_6_code 35 = .ok (.invokespecial 73, 3) := by decide +kernel
theorem d_Sp_originate_38 : decode prog_1_method_6_code 38 = .ok (.athrow, 1) := by decide +kernel
theorem d_Sp_originate_39 : decode prog_1_method_6_code 39 = .ok (.aload_n 0, 1) := by decide +kernel
theorem d_Sp_originate_40 : decode prog_1_method_6_code 40 = .ok (.getfield 10, 3) := by decide +kernel
theorem d_Sp_originate_43 : decode prog_1_method_6_code 43 = .ok (.getfield 113, 3) := by decide +kernel
theorem d_Sp_originate_46 : decode prog_1_method_6_code 46 = .ok (.iload_n 3, 1) := by decide +kernel
theorem d_Sp_originate_47 : decode prog_1_method_6_code 47 = .ok (.baload, 1) := by decide +kernel
theorem d_Sp_originate_48 : decode prog_1_method_6_code 48 = .ok (.ifCond .eq (5), 3) := by decide +kernel
theorem d_Sp_originate_51 : decode prog_1_method_6_code 51 = .ok (.iconst 0, 1) := by decide +kernel
theorem d_Sp_originate_52 : decode prog_1_method_6_code 52 = .ok (.ireturn, 1) := by decide +kernel
theorem d_Sp_originate_53 : decode prog_1_method_6_code 53 = .ok (.aload_n 0, 1) := by decide +kernel
theorem d_Sp_originate_54 : decode prog_1_method_6_code 54 = .ok (.getfield 10, 3) := by decide +kernel
theorem d_Sp_originate_57 : decode prog_1_method_6_code 57 = .ok (.getfield 113, 3) := by decide +kernel
theorem d_Sp_originate_60 : decode prog_1_method_6_code 60 = .ok (.iload_n 3, 1) := by decide +kernel
theorem d_Sp_originate_61 : decode prog_1_method_6_code 61 = .ok (.iconst 1, 1) := by decide +kernel
theorem d_Sp_originate_62 : decode prog_1_method_6_code 62 = .ok (.bastore, 1) := by decide +kernel
theorem d_Sp_originate_63 : decode prog_1_method_6_code 63 = .ok (.aload_n 0, 1) := by decide +kernel
theorem d_Sp_originate_64 : decode prog_1_method_6_code 64 = .ok (.invokevirtual 94, 3) := by decide +kernel
theorem d_Sp_originate_67 : decode prog_1_method_6_code 67 = .ok (.iconst 1, 1) := by decide +kernel
theorem d_Sp_originate_68 : decode prog_1_method_6_code 68 = .ok (.ireturn, 1) := by decide +kernel
def F_Sp_originate (N : Nat → Nat) (v0 : Nat) (x1 : Int32) (x2 : Int32) (σ : rs_Mem) (Q : Int32 → rs_Mem → Prop) (QT : Nat → rs_Mem → Prop) : Prop :=
  (F_Sp_isPrefix N x1 x2 σ (fun x52 σ51 => ((¬ (x52 = 0) → (F_Px_learn N (rs_R σ51 v0 0) x1 x2 σ51 (fun x55 σ54 => ((¬ (x55 = (-1 : Int32)) → (vp_in x55 (N (rs_R σ54 (rs_R σ54 v0 0) 2)) ∧ (((rs_I σ54 (rs_R σ54 (rs_R σ54 v0 0) 2) x55.toNatClampNeg) = 0 → (vp_in x55 (N (rs_R σ54 (rs_R σ54 v0 0) 2)) ∧ ∀ σ62 : rs_Mem, σ62 = rs_sI σ54 (rs_R σ54 (rs_R σ54 v0 0) 2) x55.toNatClampNeg (1 : Int32) → (F_Sp_tellAll N v0 σ62 (fun σ63 => (Q (1 : Int32) σ63))))) ∧ (¬ ((rs_I σ54 (rs_R σ54 (rs_R σ54 v0 0) 2) x55.toNatClampNeg) = 0) → (Q (0 : Int32) σ54))))) ∧ (x55 = (-1 : Int32) → (QT 2 σ54)))))) ∧ (x52 = 0 → (QT 1 σ51)))))
abbrev y_Sp_originate : MethodName := ({ cls := "RouteSpeaker", name := "originate", desc := "(II)Z" } : Jvm.MethodName)
theorem rc_Sp_originate : rs_Cal y_Sp_originate prog_1_method_6_code 4 (some .boolean) 2 := ⟨tw_656, tw_1, by decide, by decide, by decide +kernel⟩
set_option maxRecDepth 20000 in
theorem J_Sp_originate (l : Launch) (hfl : l.flags = flags0) {G : rs_G} {Bm : Nat} {S : rs_Shp} {v0 : Nat} {x1 : Int32} {x2 : Int32} {σ : rs_Mem} {Q : Int32 → rs_Mem → Prop} {QT : Nat → rs_Mem → Prop} (h_v0 : rs_Ok S 1 v0) (hF : F_Sp_originate S.2.2 v0 x1 x2 σ Q QT) :
    rs_MetT l y_Sp_originate prog_1_method_6_code 4 (some .boolean) { frames := 6, cells := 1, slots := 6, locals := 140 } G Bm S σ [.ref (Bm + v0), .int x1, .int x2] (rs_Qi G Bm S Q) QT := by
  refine rs_metT (own := "RouteSpeaker") hfl (by decide) rfl (Nat.le_of_ble_eq_true rfl) (fun p e s m below meth c ls C hXC hl hH hT hS => ?_)
  replace hl : lv_has ls 4 [(0, .ref (Bm + v0)), (1, .int x1), (2, .int x2)] := hl
  have hx := C.1
  have hb := C.2.1
  unfold F_Sp_originate at hF
  refine lv_iload_n hx hb d_Sp_originate_0 rfl (lv_at hl 1 rfl) ?_
  refine lv_iload_n hx hb d_Sp_originate_1 rfl (lv_at hl 2 rfl) ?_
  refine rs_ci (rs_runS C hH hT hl (J_Sp_isPrefix l hF) rc_Sp_isPrefix tw_625 tw_626 rfl ⟨⟨rfl, rfl⟩, by decide, by decide, by decide⟩ (Nat.le_of_ble_eq_true rfl) rfl d_Sp_originate_2) hS (fun x52 σ51 H locs hH hT hS hF => ?_)
  refine lv_if_ne hx hb d_Sp_originate_5 (tgt := 16) rfl (fun hc => ?_) (fun hc => ?_)
  · replace hF := hF.1 hc
    refine lv_aload_n hx hb d_Sp_originate_16 rfl (lv_at hl 0 rfl) ?_
    refine rs_getR C hH hT h_v0 fk_1_0 tw_320 d_Sp_originate_17 (fun h53 => ?_)
    refine lv_iload_n hx hb d_Sp_originate_20 rfl (lv_at hl 1 rfl) ?_
    refine lv_iload_n hx hb d_Sp_originate_21 rfl (lv_at hl 2 rfl) ?_
    refine rs_ci (rs_runV C hH hT hl (J_Px_learn l h53 hF) rc_Px_learn tw_657 tw_658 tw_659 h53 ⟨rfl, by decide, by decide⟩ rfl ⟨⟨rfl, rfl⟩, by decide, by decide, by decide⟩ (Nat.le_of_ble_eq_true rfl) rfl d_Sp_originate_22) hS (fun x55 σ54 H locs hH hT hS hF => ?_)
    refine lv_istore_n hx hb d_Sp_originate_25 rfl hl (by decide) (lv' := [(3, .int x55), (0, .ref (Bm + v0)), (1, .int x1), (2, .int x2)]) rfl (fun ls hl => ?_)
    refine lv_iload_n hx hb d_Sp_originate_26 rfl (lv_at hl 0 rfl) ?_
    refine lv_iconst hx hb d_Sp_originate_27 ki_m1 ?_
    refine lv_icmp_ne hx hb d_Sp_originate_28 (tgt := 39) rfl (fun hc => ?_) (fun hc => ?_)
    · replace hF := hF.1 hc
      refine lv_aload_n hx hb d_Sp_originate_39 rfl (lv_at hl 1 rfl) ?_
      refine rs_getR C hH hT h_v0 fk_1_0 tw_320 d_Sp_originate_40 (fun h56 => ?_)
      refine rs_getR C hH hT h56 fk_7_2 tw_39 d_Sp_originate_43 (fun h57 => ?_)
      refine lv_iload_n hx hb d_Sp_originate_46 rfl (lv_at hl 0 rfl) ?_
      obtain ⟨g58, hF⟩ := hF
      refine rs_zald C hH h57 g58 d_Sp_originate_47 ?_
      refine lv_if_eq hx hb d_Sp_originate_48 (tgt := 53) rfl (fun hc => ?_) (fun hc => ?_)
      · replace hF := hF.1 hc
        refine lv_aload_n hx hb d_Sp_originate_53 rfl (lv_at hl 1 rfl) ?_
        refine rs_getR C hH hT h_v0 fk_1_0 tw_320 d_Sp_originate_54 (fun h59 => ?_)
        refine rs_getR C hH hT h59 fk_7_2 tw_39 d_Sp_originate_57 (fun h60 => ?_)
        refine lv_iload_n hx hb d_Sp_originate_60 rfl (lv_at hl 0 rfl) ?_
        refine lv_iconst hx hb d_Sp_originate_61 ki_1 ?_
        obtain ⟨g61, hF⟩ := hF
        refine rs_zast C hH hT hS (by decide) h60 g61 d_Sp_originate_62 (fun σ62 H locs eσ62 hH hT hS => ?_)
        replace hF := hF σ62 eσ62
        refine lv_aload_n hx hb d_Sp_originate_63 rfl (lv_at hl 1 rfl) ?_
        refine rs_cv (rs_runV C hH hT hl (J_Sp_tellAll l h_v0 hF) rc_Sp_tellAll tw_373 tw_375 ts_3 h_v0 ⟨rfl, by decide, by decide⟩ rfl ⟨⟨rfl, rfl⟩, by decide, by decide, by decide⟩ (Nat.le_of_ble_eq_true rfl) rfl d_Sp_originate_64) hS (fun σ63 H locs hH hT hS hF => ?_)
        refine lv_iconst hx hb d_Sp_originate_67 ki_1 ?_
        exact rs_toT (rs_zret C hH hT hS (by decide) hF d_Sp_originate_68)
      · replace hF := hF.2 hc
        refine lv_iconst hx hb d_Sp_originate_51 ki_0 ?_
        exact rs_toT (rs_zret C hH hT hS (by decide) hF d_Sp_originate_52)
    · replace hF := hF.2 hc
      exact rs_throw C hXC hH hT hS th_71_73_2 ⟨⟨by decide, by decide⟩, by decide, Nat.le_of_ble_eq_true rfl⟩ hl.1 d_Sp_originate_31 d_Sp_originate_34 d_Sp_originate_35 d_Sp_originate_38 hF
  · replace hF := hF.2 hc
    exact rs_throw C hXC hH hT hS th_61_63_1 ⟨⟨by decide, by decide⟩, by decide, Nat.le_of_ble_eq_true rfl⟩ hl.1 d_Sp_originate_8 d_Sp_originate_11 d_Sp_originate_12 d_Sp_originate_15 hF
/-! RouteSpeaker.retract(II)Z -/
theorem d_Sp_retract_0 : decode prog_1_method_7_code 0 = .ok (.iload_n 1, 1) := by decide +kernel
theorem d_Sp_retract_1 : decode prog_1_method_7_code 1 = .ok (.iload_n 2, 1) := by decide +kernel
theorem d_Sp_retract_2 : decode prog_1_method_7_code 2 = .ok (.invokestatic 80, 3) := by decide +kernel
theorem d_Sp_retract_5 : decode prog_1_method_7_code 5 = .ok (.ifCond .ne (11), 3) := by decide +kernel
theorem d_Sp_retract_8 : decode prog_1_method_7_code 8 = .ok (.new 61, 3) := by decide +kernel
theorem d_Sp_retract_11 : decode prog_1_method_7_code 11 = .ok (.dup, 1) := by decide +kernel
theorem d_Sp_retract_12 : decode prog_1_method_7_code 12 = .ok (.invokespecial 63, 3) := by decide +kernel
theorem d_Sp_retract_15 : decode prog_1_method_7_code 15 = .ok (.athrow, 1) := by decide +kernel
theorem d_Sp_retract_16 : decode prog_1_method_7_code 16 = .ok (.aload_n 0, 1) := by decide +kernel
theorem d_Sp_retract_17 : decode prog_1_method_7_code 17 = .ok (.getfield 10, 3) := by decide +kernel
theorem d_Sp_retract_20 : decode prog_1_method_7_code 20 = .ok (.iload_n 1, 1) := by decide +kernel
theorem d_Sp_retract_21 : decode prog_1_method_7_code 21 = .ok (.iload_n 2, 1) := by decide +kernel
theorem d_Sp_retract_22 : decode prog_1_method_7_code 22 = .ok (.invokevirtual 117, 3) := by decide +kernel
theorem d_Sp_retract_25 : decode prog_1_method_7_code 25 = .ok (.istore_n 3, 1) := by decide +kernel
theorem d_Sp_retract_26 : decode prog_1_method_7_code 26 = .ok (.iload_n 3, 1) := by decide +kernel
theorem d_Sp_retract_27 : decode prog_1_method_7_code 27 = .ok (.iconst (-1), 1) := by decide +kernel
theorem d_Sp_retract_28 : decode prog_1_method_7_code 28 = .ok (.if_icmp .eq (15), 3) := by decide +kernel
theorem d_Sp_retract_31 : decode prog_1_method_7_code 31 = .ok (.aload_n 0, 1) := by decide +kernel
theorem d_Sp_retract_32 : decode prog_1_method_7_code 32 = .ok (.getfield 10, 3) := by decide +kernel
theorem d_Sp_retract_35 : decode prog_1_method_7_code 35 = .ok (.getfield 113, 3) := by decide +kernel
theorem d_Sp_retract_38 : decode prog_1_method_7_code 38 = .ok (.iload_n 3, 1) := by decide +kernel
theorem d_Sp_retract_39 : decode prog_1_method_7_code 39 = .ok (.baload, 1) := by decide +kernel
theorem d_Sp_retract_40 : decode prog_1_method_7_code 40 = .ok (.ifCond .ne (5), 3) := by decide +kernel
theorem d_Sp_retract_43 : decode prog_1_method_7_code 43 = .ok (.iconst 0, 1) := by decide +kernel
theorem d_Sp_retract_44 : decode prog_1_method_7_code 44 = .ok (.ireturn, 1) := by decide +kernel
theorem d_Sp_retract_45 : decode prog_1_method_7_code 45 = .ok (.aload_n 0, 1) := by decide +kernel
theorem d_Sp_retract_46 : decode prog_1_method_7_code 46 = .ok (.getfield 10, 3) := by decide +kernel
theorem d_Sp_retract_49 : decode prog_1_method_7_code 49 = .ok (.getfield 113, 3) := by decide +kernel
theorem d_Sp_retract_52 : decode prog_1_method_7_code 52 = .ok (.iload_n 3, 1) := by decide +kernel
theorem d_Sp_retract_53 : decode prog_1_method_7_code 53 = .ok (.iconst 0, 1) := by decide +kernel
theorem d_Sp_retract_54 : decode prog_1_method_7_code 54 = .ok (.bastore, 1) := by decide +kernel
theorem d_Sp_retract_55 : decode prog_1_method_7_code 55 = .ok (.aload_n 0, 1) := by decide +kernel
theorem d_Sp_retract_56 : decode prog_1_method_7_code 56 = .ok (.invokevirtual 94, 3) := by decide +kernel
theorem d_Sp_retract_59 : decode prog_1_method_7_code 59 = .ok (.iconst 1, 1) := by decide +kernel
theorem d_Sp_retract_60 : decode prog_1_method_7_code 60 = .ok (.ireturn, 1) := by decide +kernel
def F_Sp_retract (N : Nat → Nat) (v0 : Nat) (x1 : Int32) (x2 : Int32) (σ : rs_Mem) (Q : Int32 → rs_Mem → Prop) (QT : Nat → rs_Mem → Prop) : Prop :=
  (F_Sp_isPrefix N x1 x2 σ (fun x52 σ51 => ((¬ (x52 = 0) → (F_Px_find N (rs_R σ51 v0 0) x1 x2 σ51 (fun x55 σ54 => ((x55 = (-1 : Int32) → (Q (0 : Int32) σ54)) ∧ (¬ (x55 = (-1 : Int32)) → (vp_in x55 (N (rs_R σ54 (rs_R σ54 v0 0) 2)) ∧ ((¬ ((rs_I σ54 (rs_R σ54 (rs_R σ54 v0 0) 2) x55.toNatClampNeg) = 0) → (vp_in x55 (N (rs_R σ54 (rs_R σ54 v0 0) 2)) ∧ ∀ σ62 : rs_Mem, σ62 = rs_sI σ54 (rs_R σ54 (rs_R σ54 v0 0) 2) x55.toNatClampNeg (0 : Int32) → (F_Sp_tellAll N v0 σ62 (fun σ63 => (Q (1 : Int32) σ63))))) ∧ ((rs_I σ54 (rs_R σ54 (rs_R σ54 v0 0) 2) x55.toNatClampNeg) = 0 → (Q (0 : Int32) σ54))))))))) ∧ (x52 = 0 → (QT 1 σ51)))))
abbrev y_Sp_retract : MethodName := ({ cls := "RouteSpeaker", name := "retract", desc := "(II)Z" } : Jvm.MethodName)
theorem rc_Sp_retract : rs_Cal y_Sp_retract prog_1_method_7_code 4 (some .boolean) 2 := ⟨tw_671, tw_1, by decide, by decide, by decide +kernel⟩
set_option maxRecDepth 20000 in
theorem J_Sp_retract (l : Launch) (hfl : l.flags = flags0) {G : rs_G} {Bm : Nat} {S : rs_Shp} {v0 : Nat} {x1 : Int32} {x2 : Int32} {σ : rs_Mem} {Q : Int32 → rs_Mem → Prop} {QT : Nat → rs_Mem → Prop} (h_v0 : rs_Ok S 1 v0) (hF : F_Sp_retract S.2.2 v0 x1 x2 σ Q QT) :
    rs_MetT l y_Sp_retract prog_1_method_7_code 4 (some .boolean) { frames := 6, cells := 1, slots := 6, locals := 140 } G Bm S σ [.ref (Bm + v0), .int x1, .int x2] (rs_Qi G Bm S Q) QT := by
  refine rs_metT (own := "RouteSpeaker") hfl (by decide) rfl (Nat.le_of_ble_eq_true rfl) (fun p e s m below meth c ls C hXC hl hH hT hS => ?_)
  replace hl : lv_has ls 4 [(0, .ref (Bm + v0)), (1, .int x1), (2, .int x2)] := hl
  have hx := C.1
  have hb := C.2.1
  unfold F_Sp_retract at hF
  refine lv_iload_n hx hb d_Sp_retract_0 rfl (lv_at hl 1 rfl) ?_
  refine lv_iload_n hx hb d_Sp_retract_1 rfl (lv_at hl 2 rfl) ?_
  refine rs_ci (rs_runS C hH hT hl (J_Sp_isPrefix l hF) rc_Sp_isPrefix tw_625 tw_626 rfl ⟨⟨rfl, rfl⟩, by decide, by decide, by decide⟩ (Nat.le_of_ble_eq_true rfl) rfl d_Sp_retract_2) hS (fun x52 σ51 H locs hH hT hS hF => ?_)
  refine lv_if_ne hx hb d_Sp_retract_5 (tgt := 16) rfl (fun hc => ?_) (fun hc => ?_)
  · replace hF := hF.1 hc
    refine lv_aload_n hx hb d_Sp_retract_16 rfl (lv_at hl 0 rfl) ?_
    refine rs_getR C hH hT h_v0 fk_1_0 tw_320 d_Sp_retract_17 (fun h53 => ?_)
    refine lv_iload_n hx hb d_Sp_retract_20 rfl (lv_at hl 1 rfl) ?_
    refine lv_iload_n hx hb d_Sp_retract_21 rfl (lv_at hl 2 rfl) ?_
    refine rs_ci (rs_runV C hH hT hl (J_Px_find l h53 hF) rc_Px_find tw_672 tw_662 tw_663 h53 ⟨rfl, by decide, by decide⟩ rfl ⟨⟨rfl, rfl⟩, by decide, by decide, by decide⟩ (Nat.le_of_ble_eq_true rfl) rfl d_Sp_retract_22) hS (fun x55 σ54 H locs hH hT hS hF => ?_)
    refine lv_istore_n hx hb d_Sp_retract_25 rfl hl (by decide) (lv' := [(3, .int x55), (0, .ref (Bm + v0)), (1, .int x1), (2, .int x2)]) rfl (fun ls hl => ?_)
    refine lv_iload_n hx hb d_Sp_retract_26 rfl (lv_at hl 0 rfl) ?_
    refine lv_iconst hx hb d_Sp_retract_27 ki_m1 ?_
    refine lv_icmp_eq hx hb d_Sp_retract_28 (tgt := 43) rfl (fun hc => ?_) (fun hc => ?_)
    · replace hF := hF.1 hc
      refine lv_iconst hx hb d_Sp_retract_43 ki_0 ?_
      exact rs_toT (rs_zret C hH hT hS (by decide) hF d_Sp_retract_44)
    · replace hF := hF.2 hc
      refine lv_aload_n hx hb d_Sp_retract_31 rfl (lv_at hl 1 rfl) ?_
      refine rs_getR C hH hT h_v0 fk_1_0 tw_320 d_Sp_retract_32 (fun h56 => ?_)
      refine rs_getR C hH hT h56 fk_7_2 tw_39 d_Sp_retract_35 (fun h57 => ?_)
      refine lv_iload_n hx hb d_Sp_retract_38 rfl (lv_at hl 0 rfl) ?_
      obtain ⟨g58, hF⟩ := hF
      refine rs_zald C hH h57 g58 d_Sp_retract_39 ?_
      refine lv_if_ne hx hb d_Sp_retract_40 (tgt := 45) rfl (fun hc => ?_) (fun hc => ?_)
      · replace hF := hF.1 hc
        refine lv_aload_n hx hb d_Sp_retract_45 rfl (lv_at hl 1 rfl) ?_
        refine rs_getR C hH hT h_v0 fk_1_0 tw_320 d_Sp_retract_46 (fun h59 => ?_)
        refine rs_getR C hH hT h59 fk_7_2 tw_39 d_Sp_retract_49 (fun h60 => ?_)
        refine lv_iload_n hx hb d_Sp_retract_52 rfl (lv_at hl 0 rfl) ?_
        refine lv_iconst hx hb d_Sp_retract_53 ki_0 ?_
        obtain ⟨g61, hF⟩ := hF
        refine rs_zast C hH hT hS (by decide) h60 g61 d_Sp_retract_54 (fun σ62 H locs eσ62 hH hT hS => ?_)
        replace hF := hF σ62 eσ62
        refine lv_aload_n hx hb d_Sp_retract_55 rfl (lv_at hl 1 rfl) ?_
        refine rs_cv (rs_runV C hH hT hl (J_Sp_tellAll l h_v0 hF) rc_Sp_tellAll tw_373 tw_375 ts_3 h_v0 ⟨rfl, by decide, by decide⟩ rfl ⟨⟨rfl, rfl⟩, by decide, by decide, by decide⟩ (Nat.le_of_ble_eq_true rfl) rfl d_Sp_retract_56) hS (fun σ63 H locs hH hT hS hF => ?_)
        refine lv_iconst hx hb d_Sp_retract_59 ki_1 ?_
        exact rs_toT (rs_zret C hH hT hS (by decide) hF d_Sp_retract_60)
      · replace hF := hF.2 hc
        refine lv_iconst hx hb d_Sp_retract_43 ki_0 ?_
        exact rs_toT (rs_zret C hH hT hS (by decide) hF d_Sp_retract_44)
  · replace hF := hF.2 hc
    exact rs_throw C hXC hH hT hS th_61_63_1 ⟨⟨by decide, by decide⟩, by decide, Nat.le_of_ble_eq_true rfl⟩ hl.1 d_Sp_retract_8 d_Sp_retract_11 d_Sp_retract_12 d_Sp_retract_15 hF
/-! RouteSpeaker.start(I)Z -/
theorem d_Sp_start_0 : decode prog_1_method_8_code 0 = .ok (.iload_n 1, 1) := by decide +kernel
theorem d_Sp_start_1 : decode prog_1_method_8_code 1 = .ok (.invokestatic 57, 3) := by decide +kernel
theorem d_Sp_start_4 : decode prog_1_method_8_code 4 = .ok (.ifCond .ne (11), 3) := by decide +kernel
theorem d_Sp_start_7 : decode prog_1_method_8_code 7 = .ok (.new 61, 3) := by decide +kernel
theorem d_Sp_start_10 : decode prog_1_method_8_code 10 = .ok (.dup, 1) := by decide +kernel
theorem d_Sp_start_11 : decode prog_1_method_8_code 11 = .ok (.invokespecial 63, 3) := by decide +kernel
theorem d_Sp_start_14 : decode prog_1_method_8_code 14 = .ok (.athrow, 1) := by decide +kernel
theorem d_Sp_start_15 : decode prog_1_method_8_code 15 = .ok (.aload_n 0, 1) := by decide +kernel
theorem d_Sp_start_16 : decode prog_1_method_8_code 16 = .ok (.getfield 18, 3) := by decide +kernel
theorem d_Sp_start_19 : decode prog_1_method_8_code 19 = .ok (.iload_n 1, 1) := by decide +kernel
theorem d_Sp_start_20 : decode prog_1_method_8_code 20 = .ok (.aaload, 1) := by decide +kernel
theorem d_Sp_start_21 : decode prog_1_method_8_code 21 = .ok (.invokevirtual 67, 3) := by decide +kernel
theorem d_Sp_start_24 : decode prog_1_method_8_code 24 = .ok (.ifCond .ne (5), 3) := by decide +kernel
theorem d_Sp_start_27 : decode prog_1_method_8_code 27 = .ok (.iconst 0, 1) := by decide +kernel
theorem d_Sp_start_28 : decode prog_1_method_8_code 28 = .ok (.ireturn, 1) := by decide +kernel
theorem d_Sp_start_29 : decode prog_1_method_8_code 29 = .ok (.aload_n 0, 1) := by decide +kernel
theorem d_Sp_start_30 : decode prog_1_method_8_code 30 = .ok (.getfield 18, 3) := by decide +kernel
theorem d_Sp_start_33 : decode prog_1_method_8_code 33 = .ok (.iload_n 1, 1) := by decide +kernel
theorem d_Sp_start_34 : decode prog_1_method_8_code 34 = .ok (.aaload, 1) := by decide +kernel
theorem d_Sp_start_35 : decode prog_1_method_8_code 35 = .ok (.invokevirtual 120, 3) := by decide +kernel
theorem d_Sp_start_38 : decode prog_1_method_8_code 38 = .ok (.aload_n 0, 1) := by decide +kernel
theorem d_Sp_start_39 : decode prog_1_method_8_code 39 = .ok (.invokevirtual 94, 3) := by decide +kernel
theorem d_Sp_start_42 : decode prog_1_method_8_code 42 = .ok (.iconst 1, 1) := by decide +kernel
theorem d_Sp_start_43 : decode prog_1_method_8_code 43 = .ok (.ireturn, 1) := by decide +kernel
def F_Sp_start (N : Nat → Nat) (v0 : Nat) (x1 : Int32) (σ : rs_Mem) (Q : Int32 → rs_Mem → Prop) (QT : Nat → rs_Mem → Prop) : Prop :=
  (F_Sp_isPeer N x1 σ (fun x52 σ51 => ((¬ (x52 = 0) → (vp_in x1 (N (rs_R σ51 v0 1)) ∧ (F_Pe_isIdle N (rs_R σ51 (rs_R σ51 v0 1) x1.toNatClampNeg) σ51 (fun x57 σ56 => ((¬ (x57 = 0) → (vp_in x1 (N (rs_R σ56 v0 1)) ∧ (F_Pe_open N (rs_R σ56 (rs_R σ56 v0 1) x1.toNatClampNeg) σ56 (fun σ61 => (F_Sp_tellAll N v0 σ61 (fun σ62 => (Q (1 : Int32) σ62))))))) ∧ (x57 = 0 → (Q (0 : Int32) σ56))))))) ∧ (x52 = 0 → (QT 1 σ51)))))
abbrev y_Sp_start : MethodName := ({ cls := "RouteSpeaker", name := "start", desc := "(I)Z" } : Jvm.MethodName)
theorem rc_Sp_start : rs_Cal y_Sp_start prog_1_method_8_code 2 (some .boolean) 1 := ⟨tw_679, tw_1, by decide, by decide, by decide +kernel⟩
set_option maxRecDepth 20000 in
theorem J_Sp_start (l : Launch) (hfl : l.flags = flags0) {G : rs_G} {Bm : Nat} {S : rs_Shp} {v0 : Nat} {x1 : Int32} {σ : rs_Mem} {Q : Int32 → rs_Mem → Prop} {QT : Nat → rs_Mem → Prop} (h_v0 : rs_Ok S 1 v0) (hF : F_Sp_start S.2.2 v0 x1 σ Q QT) :
    rs_MetT l y_Sp_start prog_1_method_8_code 2 (some .boolean) { frames := 6, cells := 1, slots := 6, locals := 140 } G Bm S σ [.ref (Bm + v0), .int x1] (rs_Qi G Bm S Q) QT := by
  refine rs_metT (own := "RouteSpeaker") hfl (by decide) rfl (Nat.le_of_ble_eq_true rfl) (fun p e s m below meth c ls C hXC hl hH hT hS => ?_)
  replace hl : lv_has ls 2 [(0, .ref (Bm + v0)), (1, .int x1)] := hl
  have hx := C.1
  have hb := C.2.1
  unfold F_Sp_start at hF
  refine lv_iload_n hx hb d_Sp_start_0 rfl (lv_at hl 1 rfl) ?_
  refine rs_ci (rs_runS C hH hT hl (J_Sp_isPeer l hF) rc_Sp_isPeer tw_517 tw_518 rfl ⟨⟨rfl, rfl⟩, by decide, by decide, by decide⟩ (Nat.le_of_ble_eq_true rfl) rfl d_Sp_start_1) hS (fun x52 σ51 H locs hH hT hS hF => ?_)
  refine lv_if_ne hx hb d_Sp_start_4 (tgt := 15) rfl (fun hc => ?_) (fun hc => ?_)
  · replace hF := hF.1 hc
    refine lv_aload_n hx hb d_Sp_start_15 rfl (lv_at hl 0 rfl) ?_
    refine rs_getR C hH hT h_v0 fk_1_1 tw_321 d_Sp_start_16 (fun h53 => ?_)
    refine lv_iload_n hx hb d_Sp_start_19 rfl (lv_at hl 1 rfl) ?_
    obtain ⟨g54, hF⟩ := hF
    refine rs_aald C hH hT h53 ak_24 g54 d_Sp_start_20 (fun h55 => ?_)
    refine rs_ci (rs_runV C hH hT hl (J_Pe_isIdle l h55 hF) rc_Pe_isIdle tw_599 tw_600 tw_601 h55 ⟨rfl, by decide, by decide⟩ rfl ⟨⟨rfl, rfl⟩, by decide, by decide, by decide⟩ (Nat.le_of_ble_eq_true rfl) rfl d_Sp_start_21) hS (fun x57 σ56 H locs hH hT hS hF => ?_)
    refine lv_if_ne hx hb d_Sp_start_24 (tgt := 29) rfl (fun hc => ?_) (fun hc => ?_)
    · replace hF := hF.1 hc
      refine lv_aload_n hx hb d_Sp_start_29 rfl (lv_at hl 0 rfl) ?_
      refine rs_getR C hH hT h_v0 fk_1_1 tw_321 d_Sp_start_30 (fun h58 => ?_)
      refine lv_iload_n hx hb d_Sp_start_33 rfl (lv_at hl 1 rfl) ?_
      obtain ⟨g59, hF⟩ := hF
      refine rs_aald C hH hT h58 ak_24 g59 d_Sp_start_34 (fun h60 => ?_)
      refine rs_cv (rs_runV C hH hT hl (J_Pe_open l h60 hF) rc_Pe_open tw_680 tw_681 tw_682 h60 ⟨rfl, by decide, by decide⟩ rfl ⟨⟨rfl, rfl⟩, by decide, by decide, by decide⟩ (Nat.le_of_ble_eq_true rfl) rfl d_Sp_start_35) hS (fun σ61 H locs hH hT hS hF => ?_)
      refine lv_aload_n hx hb d_Sp_start_38 rfl (lv_at hl 0 rfl) ?_
      refine rs_cv (rs_runV C hH hT hl (J_Sp_tellAll l h_v0 hF) rc_Sp_tellAll tw_373 tw_375 ts_3 h_v0 ⟨rfl, by decide, by decide⟩ rfl ⟨⟨rfl, rfl⟩, by decide, by decide, by decide⟩ (Nat.le_of_ble_eq_true rfl) rfl d_Sp_start_39) hS (fun σ62 H locs hH hT hS hF => ?_)
      refine lv_iconst hx hb d_Sp_start_42 ki_1 ?_
      exact rs_toT (rs_zret C hH hT hS (by decide) hF d_Sp_start_43)
    · replace hF := hF.2 hc
      refine lv_iconst hx hb d_Sp_start_27 ki_0 ?_
      exact rs_toT (rs_zret C hH hT hS (by decide) hF d_Sp_start_28)
  · replace hF := hF.2 hc
    exact rs_throw C hXC hH hT hS th_61_63_1 ⟨⟨by decide, by decide⟩, by decide, Nat.le_of_ble_eq_true rfl⟩ hl.1 d_Sp_start_7 d_Sp_start_10 d_Sp_start_11 d_Sp_start_14 hF
/-! RouteSpeaker.stop(I)Z -/
theorem d_Sp_stop_0 : decode prog_1_method_9_code 0 = .ok (.iload_n 1, 1) := by decide +kernel
theorem d_Sp_stop_1 : decode prog_1_method_9_code 1 = .ok (.invokestatic 57, 3) := by decide +kernel
theorem d_Sp_stop_4 : decode prog_1_method_9_code 4 = .ok (.ifCond .ne (11), 3) := by decide +kernel
theorem d_Sp_stop_7 : decode prog_1_method_9_code 7 = .ok (.new 61, 3) := by decide +kernel
theorem d_Sp_stop_10 : decode prog_1_method_9_code 10 = .ok (.dup, 1) := by decide +kernel
theorem d_Sp_stop_11 : decode prog_1_method_9_code 11 = .ok (.invokespecial 63, 3) := by decide +kernel
theorem d_Sp_stop_14 : decode prog_1_method_9_code 14 = .ok (.athrow, 1) := by decide +kernel
theorem d_Sp_stop_15 : decode prog_1_method_9_code 15 = .ok (.aload_n 0, 1) := by decide +kernel
theorem d_Sp_stop_16 : decode prog_1_method_9_code 16 = .ok (.getfield 18, 3) := by decide +kernel
theorem d_Sp_stop_19 : decode prog_1_method_9_code 19 = .ok (.iload_n 1, 1) := by decide +kernel
theorem d_Sp_stop_20 : decode prog_1_method_9_code 20 = .ok (.aaload, 1) := by decide +kernel
theorem d_Sp_stop_21 : decode prog_1_method_9_code 21 = .ok (.invokevirtual 67, 3) := by decide +kernel
theorem d_Sp_stop_24 : decode prog_1_method_9_code 24 = .ok (.ifCond .eq (5), 3) := by decide +kernel
theorem d_Sp_stop_27 : decode prog_1_method_9_code 27 = .ok (.iconst 0, 1) := by decide +kernel
theorem d_Sp_stop_28 : decode prog_1_method_9_code 28 = .ok (.ireturn, 1) := by decide +kernel
theorem d_Sp_stop_29 : decode prog_1_method_9_code 29 = .ok (.aload_n 0, 1) := by decide +kernel
theorem d_Sp_stop_30 : decode prog_1_method_9_code 30 = .ok (.getfield 18, 3) := by decide +kernel
theorem d_Sp_stop_33 : decode prog_1_method_9_code 33 = .ok (.iload_n 1, 1) := by decide +kernel
theorem d_Sp_stop_34 : decode prog_1_method_9_code 34 = .ok (.aaload, 1) := by decide +kernel
theorem d_Sp_stop_35 : decode prog_1_method_9_code 35 = .ok (.bipush (6), 2) := by decide +kernel
theorem d_Sp_stop_37 : decode prog_1_method_9_code 37 = .ok (.iconst 2, 1) := by decide +kernel
theorem d_Sp_stop_38 : decode prog_1_method_9_code 38 = .ok (.invokevirtual 123, 3) := by decide +kernel
theorem d_Sp_stop_41 : decode prog_1_method_9_code 41 = .ok (.aload_n 0, 1) := by decide +kernel
theorem d_Sp_stop_42 : decode prog_1_method_9_code 42 = .ok (.invokevirtual 94, 3) := by decide +kernel
theorem d_Sp_stop_45 : decode prog_1_method_9_code 45 = .ok (.iconst 1, 1) := by decide +kernel
theorem d_Sp_stop_46 : decode prog_1_method_9_code 46 = .ok (.ireturn, 1) := by decide +kernel
def F_Sp_stop (N : Nat → Nat) (v0 : Nat) (x1 : Int32) (σ : rs_Mem) (Q : Int32 → rs_Mem → Prop) (QT : Nat → rs_Mem → Prop) : Prop :=
  (F_Sp_isPeer N x1 σ (fun x52 σ51 => ((¬ (x52 = 0) → (vp_in x1 (N (rs_R σ51 v0 1)) ∧ (F_Pe_isIdle N (rs_R σ51 (rs_R σ51 v0 1) x1.toNatClampNeg) σ51 (fun x57 σ56 => ((x57 = 0 → (vp_in x1 (N (rs_R σ56 v0 1)) ∧ (F_Pe_end N (rs_R σ56 (rs_R σ56 v0 1) x1.toNatClampNeg) (6 : Int32) (2 : Int32) σ56 (fun σ61 => (F_Sp_tellAll N v0 σ61 (fun σ62 => (Q (1 : Int32) σ62))))))) ∧ (¬ (x57 = 0) → (Q (0 : Int32) σ56))))))) ∧ (x52 = 0 → (QT 1 σ51)))))
abbrev y_Sp_stop : MethodName := ({ cls := "RouteSpeaker", name := "stop", desc := "(I)Z" } : Jvm.MethodName)
theorem rc_Sp_stop : rs_Cal y_Sp_stop prog_1_method_9_code 2 (some .boolean) 1 := ⟨tw_690, tw_1, by decide, by decide, by decide +kernel⟩
set_option maxRecDepth 20000 in
theorem J_Sp_stop (l : Launch) (hfl : l.flags = flags0) {G : rs_G} {Bm : Nat} {S : rs_Shp} {v0 : Nat} {x1 : Int32} {σ : rs_Mem} {Q : Int32 → rs_Mem → Prop} {QT : Nat → rs_Mem → Prop} (h_v0 : rs_Ok S 1 v0) (hF : F_Sp_stop S.2.2 v0 x1 σ Q QT) :
    rs_MetT l y_Sp_stop prog_1_method_9_code 2 (some .boolean) { frames := 6, cells := 1, slots := 6, locals := 140 } G Bm S σ [.ref (Bm + v0), .int x1] (rs_Qi G Bm S Q) QT := by
  refine rs_metT (own := "RouteSpeaker") hfl (by decide) rfl (Nat.le_of_ble_eq_true rfl) (fun p e s m below meth c ls C hXC hl hH hT hS => ?_)
  replace hl : lv_has ls 2 [(0, .ref (Bm + v0)), (1, .int x1)] := hl
  have hx := C.1
  have hb := C.2.1
  unfold F_Sp_stop at hF
  refine lv_iload_n hx hb d_Sp_stop_0 rfl (lv_at hl 1 rfl) ?_
  refine rs_ci (rs_runS C hH hT hl (J_Sp_isPeer l hF) rc_Sp_isPeer tw_517 tw_518 rfl ⟨⟨rfl, rfl⟩, by decide, by decide, by decide⟩ (Nat.le_of_ble_eq_true rfl) rfl d_Sp_stop_1) hS (fun x52 σ51 H locs hH hT hS hF => ?_)
  refine lv_if_ne hx hb d_Sp_stop_4 (tgt := 15) rfl (fun hc => ?_) (fun hc => ?_)
  · replace hF := hF.1 hc
    refine lv_aload_n hx hb d_Sp_stop_15 rfl (lv_at hl 0 rfl) ?_
    refine rs_getR C hH hT h_v0 fk_1_1 tw_321 d_Sp_stop_16 (fun h53 => ?_)
    refine lv_iload_n hx hb d_Sp_stop_19 rfl (lv_at hl 1 rfl) ?_
    obtain ⟨g54, hF⟩ := hF
    refine rs_aald C hH hT h53 ak_24 g54 d_Sp_stop_20 (fun h55 => ?_)
    refine rs_ci (rs_runV C hH hT hl (J_Pe_isIdle l h55 hF) rc_Pe_isIdle tw_599 tw_600 tw_601 h55 ⟨rfl, by decide, by decide⟩ rfl ⟨⟨rfl, rfl⟩, by decide, by decide, by decide⟩ (Nat.le_of_ble_eq_true rfl) rfl d_Sp_stop_21) hS (fun x57 σ56 H locs hH hT hS hF => ?_)
    refine lv_if_eq hx hb d_Sp_stop_24 (tgt := 29) rfl (fun hc => ?_) (fun hc => ?_)
    · replace hF := hF.1 hc
      refine lv_aload_n hx hb d_Sp_stop_29 rfl (lv_at hl 0 rfl) ?_
      refine rs_getR C hH hT h_v0 fk_1_1 tw_321 d_Sp_stop_30 (fun h58 => ?_)
      refine lv_iload_n hx hb d_Sp_stop_33 rfl (lv_at hl 1 rfl) ?_
      obtain ⟨g59, hF⟩ := hF
      refine rs_aald C hH hT h58 ak_24 g59 d_Sp_stop_34 (fun h60 => ?_)
      refine lv_bipush hx hb d_Sp_stop_35 kb_6 ?_
      refine lv_iconst hx hb d_Sp_stop_37 ki_2 ?_
      refine rs_cv (rs_runV C hH hT hl (J_Pe_end l h60 hF) rc_Pe_end tw_691 tw_348 tw_349 h60 ⟨rfl, by decide, by decide⟩ rfl ⟨⟨rfl, rfl⟩, by decide, by decide, by decide⟩ (Nat.le_of_ble_eq_true rfl) rfl d_Sp_stop_38) hS (fun σ61 H locs hH hT hS hF => ?_)
      refine lv_aload_n hx hb d_Sp_stop_41 rfl (lv_at hl 0 rfl) ?_
      refine rs_cv (rs_runV C hH hT hl (J_Sp_tellAll l h_v0 hF) rc_Sp_tellAll tw_373 tw_375 ts_3 h_v0 ⟨rfl, by decide, by decide⟩ rfl ⟨⟨rfl, rfl⟩, by decide, by decide, by decide⟩ (Nat.le_of_ble_eq_true rfl) rfl d_Sp_stop_42) hS (fun σ62 H locs hH hT hS hF => ?_)
      refine lv_iconst hx hb d_Sp_stop_45 ki_1 ?_
      exact rs_toT (rs_zret C hH hT hS (by decide) hF d_Sp_stop_46)
    · replace hF := hF.2 hc
      refine lv_iconst hx hb d_Sp_stop_27 ki_0 ?_
      exact rs_toT (rs_zret C hH hT hS (by decide) hF d_Sp_stop_28)
  · replace hF := hF.2 hc
    exact rs_throw C hXC hH hT hS th_61_63_1 ⟨⟨by decide, by decide⟩, by decide, Nat.le_of_ble_eq_true rfl⟩ hl.1 d_Sp_stop_7 d_Sp_stop_10 d_Sp_stop_11 d_Sp_stop_14 hF
/-! RouteSpeaker.feed(IJI)Z -/
theorem d_Sp_feed_0 : decode prog_1_method_10_code 0 = .ok (.iload_n 1, 1) := by decide +kernel
theorem d_Sp_feed_1 : decode prog_1_method_10_code 1 = .ok (.invokestatic 57, 3) := by decide +kernel
theorem d_Sp_feed_4 : decode prog_1_method_10_code 4 = .ok (.ifCond .eq (16), 3) := by decide +kernel
theorem d_Sp_feed_7 : decode prog_1_method_10_code 7 = .ok (.iload 4, 2) := by decide +kernel
theorem d_Sp_feed_9 : decode prog_1_method_10_code 9 = .ok (.iconst 1, 1) := by decide +kernel
theorem d_Sp_feed_10 : decode prog_1_method_10_code 10 = .ok (.if_icmp .lt (10), 3) := by decide +kernel
theorem d_Sp_feed_13 : decode prog_1_method_10_code 13 = .ok (.iload 4, 2) := by decide +kernel
theorem d_Sp_feed_15 : decode prog_1_method_10_code 15 = .ok (.bipush (8), 2) := by decide +kernel
theorem d_Sp_feed_17 : decode prog_1_method_10_code 17 = .ok (.if_icmp .le (11), 3) := by decide +kernel
theorem d_Sp_feed_20 : decode prog_1_method_10_code 20 = .ok (.new 61, 3) := by decide +kernel
theorem d_Sp_feed_23 : decode prog_1_method_10_code 23 = .ok (.dup, 1) := by decide +kernel
theorem d_Sp_feed_24 : decode prog_1_method_10_code 24 = .ok (.invokespecial 63, 3) := by decide +kernel
theorem d_Sp_feed_27 : decode prog_1_method_10_code 27 = .ok (.athrow, 1) := by decide +kernel
theorem d_Sp_feed_28 : decode prog_1_method_10_code 28 = .ok (.aload_n 0, 1) := by decide +kernel
theorem d_Sp_feed_29 : decode prog_1_method_10_code 29 = .ok (.getfield 18, 3) := by decide +kernel
theorem d_Sp_feed_32 : decode prog_1_method_10_code 32 = .ok (.iload_n 1, 1) := by decide +kernel
theorem d_Sp_feed_33 : decode prog_1_method_10_code 33 = .ok (.aaload, 1) := by decide +kernel
theorem d_Sp_feed_34 : decode prog_1_method_10_code 34 = .ok (.astore 5, 2) := by decide +kernel
theorem d_Sp_feed_36 : decode prog_1_method_10_code 36 = .ok (.aload 5, 2) := by decide +kernel
theorem d_Sp_feed_38 : decode prog_1_method_10_code 38 = .ok (.invokevirtual 67, 3) := by decide +kernel
theorem d_Sp_feed_41 : decode prog_1_method_10_code 41 = .ok (.ifCond .eq (5), 3) := by decide +kernel
theorem d_Sp_feed_44 : decode prog_1_method_10_code 44 = .ok (.iconst 0, 1) := by decide +kernel
theorem d_Sp_feed_45 : decode prog_1_method_10_code 45 = .ok (.ireturn, 1) := by decide +kernel
theorem d_Sp_feed_46 : decode prog_1_method_10_code 46 = .ok (.iload 4, 2) := by decide +kernel
theorem d_Sp_feed_48 : decode prog_1_method_10_code 48 = .ok (.iconst 1, 1) := by decide +kernel
theorem d_Sp_feed_49 : decode prog_1_method_10_code 49 = .ok (.isub, 1) := by decide +kernel
theorem d_Sp_feed_50 : decode prog_1_method_10_code 50 = .ok (.istore 6, 2) := by decide +kernel
theorem d_Sp_feed_52 : decode prog_1_method_10_code 52 = .ok (.iload 6, 2) := by decide +kernel
theorem d_Sp_feed_54 : decode prog_1_method_10_code 54 = .ok (.ifCond .lt (46), 3) := by decide +kernel
theorem d_Sp_feed_57 : decode prog_1_method_10_code 57 = .ok (.aload 5, 2) := by decide +kernel
theorem d_Sp_feed_59 : decode prog_1_method_10_code 59 = .ok (.lload_n 2, 1) := by decide +kernel
theorem d_Sp_feed_60 : decode prog_1_method_10_code 60 = .ok (.bipush (8), 2) := by decide +kernel
theorem d_Sp_feed_62 : decode prog_1_method_10_code 62 = .ok (.iload 6, 2) := by decide +kernel
theorem d_Sp_feed_64 : decode prog_1_method_10_code 64 = .ok (.imul, 1) := by decide +kernel
theorem d_Sp_feed_65 : decode prog_1_method_10_code 65 = .ok (.lushr, 1) := by decide +kernel
theorem d_Sp_feed_66 : decode prog_1_method_10_code 66 = .ok (.l2i, 1) := by decide +kernel
theorem d_Sp_feed_67 : decode prog_1_method_10_code 67 = .ok (.sipush (255), 3) := by decide +kernel
theorem d_Sp_feed_70 : decode prog_1_method_10_code 70 = .ok (.iand, 1) := by decide +kernel
theorem d_Sp_feed_71 : decode prog_1_method_10_code 71 = .ok (.invokevirtual 127, 3) := by decide +kernel
theorem d_Sp_feed_74 : decode prog_1_method_10_code 74 = .ok (.ifCond .eq (20), 3) := by decide +kernel
theorem d_Sp_feed_77 : decode prog_1_method_10_code 77 = .ok (.aload 5, 2) := by decide +kernel
theorem d_Sp_feed_79 : decode prog_1_method_10_code 79 = .ok (.aload_n 0, 1) := by decide +kernel
theorem d_Sp_feed_80 : decode prog_1_method_10_code 80 = .ok (.getfield 32, 3) := by decide +kernel
theorem d_Sp_feed_83 : decode prog_1_method_10_code 83 = .ok (.aload_n 0, 1) := by decide +kernel
theorem d_Sp_feed_84 : decode prog_1_method_10_code 84 = .ok (.getfield 10, 3) := by decide +kernel
theorem d_Sp_feed_87 : decode prog_1_method_10_code 87 = .ok (.invokevirtual 130, 3) := by decide +kernel
theorem d_Sp_feed_90 : decode prog_1_method_10_code 90 = .ok (.aload_n 0, 1) := by decide +kernel
theorem d_Sp_feed_91 : decode prog_1_method_10_code 91 = .ok (.invokevirtual 94, 3) := by decide +kernel
theorem d_Sp_feed_94 : decode prog_1_method_10_code 94 = .ok (.iinc 6 (-1), 3) := by decide +kernel
theorem d_Sp_feed_97 : decode prog_1_method_10_code 97 = .ok (.goto (-45), 3) := by decide +kernel
theorem d_Sp_feed_100 : decode prog_1_method_10_code 100 = .ok (.iconst 1, 1) := by decide +kernel
theorem d_Sp_feed_101 : decode prog_1_method_10_code 101 = .ok (.ireturn, 1) := by decide +kernel
def G_Sp_feed_52 (N : Nat → Nat) (Q : Int32 → rs_Mem → Prop) (QT : Nat → rs_Mem → Prop) (K52 : Nat → Int64 → Nat → Int32 → rs_Mem → Prop) (v0 : Nat) (x2 : Int64) (v5 : Nat) (x6 : Int32) (σ : rs_Mem) : Prop :=
  ((x6 < 0 → (Q (1 : Int32) σ)) ∧ (¬ (x6 < 0) → (F_Pe_takeByte N v5 ((((x2.toUInt64 >>> (((8 : Int32) * x6).toInt64.toUInt64 &&& Int64.toUInt64 63)).toInt64).toInt32) &&& (255 : Int32)) σ (fun x52 σ51 => ((x52 = 0 → (∀ x53 : Int32, x53 = x6 + (-1 : Int32) → (K52 v0 x2 v5 x53 σ51))) ∧ (¬ (x52 = 0) → (F_Pe_lookAtMessage N v5 (rs_R σ51 v0 3) (rs_R σ51 v0 0) σ51 (fun σ55 => (F_Sp_tellAll N v0 σ55 (fun σ56 => (∀ x57 : Int32, x57 = x6 + (-1 : Int32) → (K52 v0 x2 v5 x57 σ56))))))))))))
noncomputable def L_Sp_feed_52 (N : Nat → Nat) (Q : Int32 → rs_Mem → Prop) (QT : Nat → rs_Mem → Prop) (n : Nat) : Nat → Int64 → Nat → Int32 → rs_Mem → Prop := Nat.rec (motive := fun _ => Nat → Int64 → Nat → Int32 → rs_Mem → Prop) (fun _ _ _ _ _ => False) (fun _ K => G_Sp_feed_52 N Q QT K) n
def F_Sp_feed (N : Nat → Nat) (v0 : Nat) (x1 : Int32) (x2 : Int64) (x4 : Int32) (σ : rs_Mem) (Q : Int32 → rs_Mem → Prop) (QT : Nat → rs_Mem → Prop) : Prop :=
  (F_Sp_isPeer N x1 σ (fun x52 σ51 => ((x52 = 0 → (QT 1 σ51)) ∧ (¬ (x52 = 0) → ((x4 < (1 : Int32) → (QT 1 σ51)) ∧ (¬ (x4 < (1 : Int32)) → ((x4 ≤ (8 : Int32) → (vp_in x1 (N (rs_R σ51 v0 1)) ∧ (∀ v56 : Nat, v56 = (rs_R σ51 (rs_R σ51 v0 1) x1.toNatClampNeg) → (F_Pe_isIdle N v56 σ51 (fun x58 σ57 => ((x58 = 0 → (∀ x59 : Int32, x59 = (x4 - (1 : Int32)) → (∃ n : Nat, L_Sp_feed_52 N Q QT n v0 x2 v56 x59 σ57))) ∧ (¬ (x58 = 0) → (Q (0 : Int32) σ57)))))))) ∧ (¬ (x4 ≤ (8 : Int32)) → (QT 1 σ51)))))))))
set_option maxRecDepth 20000 in
theorem JL_Sp_feed_52 {p : Program} {l : Launch} {e : Env} {s : State} {m : MethodId} {args : Array Value} {below : List Frame} {meth : Method} {c : Code} {G : rs_G} {Bm : Nat} {S : rs_Shp} {Q : Int32 → rs_Mem → Prop} {QT : Nat → rs_Mem → Prop} (C : rs_C "RouteSpeaker" prog_1_method_10_code 7 (some .boolean) G p s m meth c args) (hXC : rs_XC l Bm s c) : ∀ n : Nat, ∀ (v0 : Nat) (x2 : Int64) (v5 : Nat) (x6 : Int32) (σ : rs_Mem) (H : Heap) (locs : List Loc) (ls : Array Slot), rs_Ok S 1 v0 → rs_Ok S 6 v5 → rs_H G Bm S σ H → rs_T S σ → va_S (rs_A Bm) s.heap H locs → lv_has ls 7 [(0, .ref (Bm + v0)), (2, .long x2), (5, .ref (Bm + v5)), (6, .int x6)] → (L_Sp_feed_52 S.2.2 Q QT n) v0 x2 v5 x6 σ → W p l e { frames := 6, cells := 1, slots := 6, locals := 156 } s m args below meth c H locs 0 0 (rs_MQ below (rs_ET G Bm S (rs_Qi G Bm S Q) QT) args s) (F0 m 52 ls []) := by
  have hx := C.1
  have hb := C.2.1
  intro n
  induction n with
  | zero => intros; rename_i hF; exact hF.elim
  | succ n hK52 =>
    intro v0 x2 v5 x6 σ H locs ls h_v0 h_v5 hH hT hS hl hF
    replace hF : G_Sp_feed_52 S.2.2 Q QT (L_Sp_feed_52 S.2.2 Q QT n) v0 x2 v5 x6 σ := hF
    unfold G_Sp_feed_52 at hF
    refine lv_iload hx hb d_Sp_feed_52 (lv_at hl 3 rfl) ?_
    refine lv_if_lt hx hb d_Sp_feed_54 (tgt := 100) rfl (fun hc => ?_) (fun hc => ?_)
    · replace hF := hF.1 hc
      refine lv_iconst hx hb d_Sp_feed_100 ki_1 ?_
      exact rs_toT (rs_zret C hH hT hS (by decide) hF d_Sp_feed_101)
    · replace hF := hF.2 hc
      refine lv_aload hx hb d_Sp_feed_57 (lv_at hl 2 rfl) ?_
      refine lv_lload_n hx hb d_Sp_feed_59 rfl (lv_at hl 1 rfl) ?_
      refine lv_bipush hx hb d_Sp_feed_60 kb_8 ?_
      refine lv_iload hx hb d_Sp_feed_62 (lv_at hl 3 rfl) ?_
      refine lv_imul hx hb d_Sp_feed_64 ?_
      refine lv_lushr hx hb d_Sp_feed_65 rfl ?_
      refine lv_l2i hx hb d_Sp_feed_66 rfl ?_
      refine lv_sipush hx hb d_Sp_feed_67 ks_255 ?_
      refine lv_iand hx hb d_Sp_feed_70 ?_
      refine rs_ci (rs_runV C hH hT hl (J_Pe_takeByte l h_v5 hF) rc_Pe_takeByte tw_699 tw_700 tw_701 h_v5 ⟨rfl, by decide, by decide⟩ rfl ⟨⟨rfl, rfl⟩, by decide, by decide, by decide⟩ (Nat.le_of_ble_eq_true rfl) rfl d_Sp_feed_71) hS (fun x52 σ51 H locs hH hT hS hF => ?_)
      refine lv_if_eq hx hb d_Sp_feed_74 (tgt := 94) rfl (fun hc => ?_) (fun hc => ?_)
      · replace hF := hF.1 hc
        obtain ⟨x53, ex53⟩ : ∃ z : Int32, z = x6 + (-1 : Int32) := ⟨_, rfl⟩
        replace hF := hF x53 ex53
        refine lv_iinc hx hb d_Sp_feed_94 hl (k := 3) rfl (v := x53) (by rw [ki_m1, ex53]) (by decide) (lv' := [(6, .int x53), (0, .ref (Bm + v0)), (2, .long x2), (5, .ref (Bm + v5))]) rfl (fun ls hl => ?_)
        refine lv_goto hx hb d_Sp_feed_97 (tgt := 52) rfl ?_
        exact hK52 v0 x2 v5 x53 σ51 _ _ _ h_v0 h_v5 hH hT hS (lv_sub hl [1, 2, 3, 0] rfl) hF
      · replace hF := hF.2 hc
        refine lv_aload hx hb d_Sp_feed_77 (lv_at hl 2 rfl) ?_
        refine lv_aload_n hx hb d_Sp_feed_79 rfl (lv_at hl 0 rfl) ?_
        refine rs_getR C hH hT h_v0 fk_1_3 tw_323 d_Sp_feed_80 (fun h53 => ?_)
        refine lv_aload_n hx hb d_Sp_feed_83 rfl (lv_at hl 0 rfl) ?_
        refine rs_getR C hH hT h_v0 fk_1_0 tw_320 d_Sp_feed_84 (fun h54 => ?_)
        refine rs_cv (rs_runV C hH hT hl (J_Pe_lookAtMessage l h_v5 h53 h54 hF) rc_Pe_lookAtMessage tw_703 tw_704 tw_705 h_v5 ⟨rfl, by decide, by decide⟩ rfl ⟨⟨rfl, rfl⟩, by decide, by decide, by decide⟩ (Nat.le_of_ble_eq_true rfl) rfl d_Sp_feed_87) hS (fun σ55 H locs hH hT hS hF => ?_)
        refine lv_aload_n hx hb d_Sp_feed_90 rfl (lv_at hl 0 rfl) ?_
        refine rs_cv (rs_runV C hH hT hl (J_Sp_tellAll l h_v0 hF) rc_Sp_tellAll tw_373 tw_375 ts_3 h_v0 ⟨rfl, by decide, by decide⟩ rfl ⟨⟨rfl, rfl⟩, by decide, by decide, by decide⟩ (Nat.le_of_ble_eq_true rfl) rfl d_Sp_feed_91) hS (fun σ56 H locs hH hT hS hF => ?_)
        obtain ⟨x57, ex57⟩ : ∃ z : Int32, z = x6 + (-1 : Int32) := ⟨_, rfl⟩
        replace hF := hF x57 ex57
        refine lv_iinc hx hb d_Sp_feed_94 hl (k := 3) rfl (v := x57) (by rw [ki_m1, ex57]) (by decide) (lv' := [(6, .int x57), (0, .ref (Bm + v0)), (2, .long x2), (5, .ref (Bm + v5))]) rfl (fun ls hl => ?_)
        refine lv_goto hx hb d_Sp_feed_97 (tgt := 52) rfl ?_
        exact hK52 v0 x2 v5 x57 σ56 _ _ _ h_v0 h_v5 hH hT hS (lv_sub hl [1, 2, 3, 0] rfl) hF
abbrev y_Sp_feed : MethodName := ({ cls := "RouteSpeaker", name := "feed", desc := "(IJI)Z" } : Jvm.MethodName)
theorem rc_Sp_feed : rs_Cal y_Sp_feed prog_1_method_10_code 7 (some .boolean) 3 := ⟨tw_698, tw_1, by decide, by decide, by decide +kernel⟩
set_option maxRecDepth 20000 in
theorem J_Sp_feed (l : Launch) (hfl : l.flags = flags0) {G : rs_G} {Bm : Nat} {S : rs_Shp} {v0 : Nat} {x1 : Int32} {x2 : Int64} {x4 : Int32} {σ : rs_Mem} {Q : Int32 → rs_Mem → Prop} {QT : Nat → rs_Mem → Prop} (h_v0 : rs_Ok S 1 v0) (hF : F_Sp_feed S.2.2 v0 x1 x2 x4 σ Q QT) :
    rs_MetT l y_Sp_feed prog_1_method_10_code 7 (some .boolean) { frames := 6, cells := 1, slots := 6, locals := 156 } G Bm S σ [.ref (Bm + v0), .int x1, .long x2, .int x4] (rs_Qi G Bm S Q) QT := by
  refine rs_metT (own := "RouteSpeaker") hfl (by decide) rfl (Nat.le_of_ble_eq_true rfl) (fun p e s m below meth c ls C hXC hl hH hT hS => ?_)
  replace hl : lv_has ls 7 [(0, .ref (Bm + v0)), (1, .int x1), (2, .long x2), (4, .int x4)] := hl
  have hx := C.1
  have hb := C.2.1
  unfold F_Sp_feed at hF
  refine lv_iload_n hx hb d_Sp_feed_0 rfl (lv_at hl 1 rfl) ?_
  refine rs_ci (rs_runS C hH hT hl (J_Sp_isPeer l hF) rc_Sp_isPeer tw_517 tw_518 rfl ⟨⟨rfl, rfl⟩, by decide, by decide, by decide⟩ (Nat.le_of_ble_eq_true rfl) rfl d_Sp_feed_1) hS (fun x52 σ51 H locs hH hT hS hF => ?_)
  refine lv_if_eq hx hb d_Sp_feed_4 (tgt := 20) rfl (fun hc => ?_) (fun hc => ?_)
  · replace hF := hF.1 hc
    exact rs_throw C hXC hH hT hS th_61_63_1 ⟨⟨by decide, by decide⟩, by decide, Nat.le_of_ble_eq_true rfl⟩ hl.1 d_Sp_feed_20 d_Sp_feed_23 d_Sp_feed_24 d_Sp_feed_27 hF
  · replace hF := hF.2 hc
    refine lv_iload hx hb d_Sp_feed_7 (lv_at hl 3 rfl) ?_
    refine lv_iconst hx hb d_Sp_feed_9 ki_1 ?_
    refine lv_icmp_lt hx hb d_Sp_feed_10 (tgt := 20) rfl (fun hc => ?_) (fun hc => ?_)
    · replace hF := hF.1 hc
      exact rs_throw C hXC hH hT hS th_61_63_1 ⟨⟨by decide, by decide⟩, by decide, Nat.le_of_ble_eq_true rfl⟩ hl.1 d_Sp_feed_20 d_Sp_feed_23 d_Sp_feed_24 d_Sp_feed_27 hF
    · replace hF := hF.2 hc
      refine lv_iload hx hb d_Sp_feed_13 (lv_at hl 3 rfl) ?_
      refine lv_bipush hx hb d_Sp_feed_15 kb_8 ?_
      refine lv_icmp_le hx hb d_Sp_feed_17 (tgt := 28) rfl (fun hc => ?_) (fun hc => ?_)
      · replace hF := hF.1 hc
        refine lv_aload_n hx hb d_Sp_feed_28 rfl (lv_at hl 0 rfl) ?_
        refine rs_getR C hH hT h_v0 fk_1_1 tw_321 d_Sp_feed_29 (fun h53 => ?_)
        refine lv_iload_n hx hb d_Sp_feed_32 rfl (lv_at hl 1 rfl) ?_
        obtain ⟨g54, hF⟩ := hF
        refine rs_aald C hH hT h53 ak_24 g54 d_Sp_feed_33 (fun h55 => ?_)
        refine rs_topr (fun v56 ev56 => ?_)
        replace hF := hF v56 ev56
        have h_v56 : rs_Ok S 6 v56 := by rw [ev56]; exact h55
        refine lv_astore hx hb d_Sp_feed_34 hl (by decide) (lv' := [(5, .ref (Bm + v56)), (0, .ref (Bm + v0)), (1, .int x1), (2, .long x2), (4, .int x4)]) rfl (fun ls hl => ?_)
        refine lv_aload hx hb d_Sp_feed_36 (lv_at hl 0 rfl) ?_
        refine rs_ci (rs_runV C hH hT hl (J_Pe_isIdle l h_v56 hF) rc_Pe_isIdle tw_599 tw_600 tw_601 h_v56 ⟨rfl, by decide, by decide⟩ rfl ⟨⟨rfl, rfl⟩, by decide, by decide, by decide⟩ (Nat.le_of_ble_eq_true rfl) rfl d_Sp_feed_38) hS (fun x58 σ57 H locs hH hT hS hF => ?_)
        refine lv_if_eq hx hb d_Sp_feed_41 (tgt := 46) rfl (fun hc => ?_) (fun hc => ?_)
        · replace hF := hF.1 hc
          refine lv_iload hx hb d_Sp_feed_46 (lv_at hl 4 rfl) ?_
          refine lv_iconst hx hb d_Sp_feed_48 ki_1 ?_
          refine lv_isub hx hb d_Sp_feed_49 ?_
          refine lv_topi (fun x59 ex59 => ?_)
          replace hF := hF x59 ex59
          refine lv_istore hx hb d_Sp_feed_50 hl (by decide) (lv' := [(6, .int x59), (5, .ref (Bm + v56)), (0, .ref (Bm + v0)), (1, .int x1), (2, .long x2), (4, .int x4)]) rfl (fun ls hl => ?_)
          obtain ⟨n, hF⟩ := hF
          exact JL_Sp_feed_52 C hXC n v0 x2 v56 x59 σ57 _ _ _ h_v0 h_v56 hH hT hS (lv_sub hl [2, 4, 1, 0] rfl) hF
        · replace hF := hF.2 hc
          refine lv_iconst hx hb d_Sp_feed_44 ki_0 ?_
          exact rs_toT (rs_zret C hH hT hS (by decide) hF d_Sp_feed_45)
      · replace hF := hF.2 hc
        exact rs_throw C hXC hH hT hS th_61_63_1 ⟨⟨by decide, by decide⟩, by decide, Nat.le_of_ble_eq_true rfl⟩ hl.1 d_Sp_feed_20 d_Sp_feed_23 d_Sp_feed_24 d_Sp_feed_27 hF
/-! RouteSpeaker.take(I)I -/
theorem d_Sp_take_0 : decode prog_1_method_11_code 0 = .ok (.iload_n 1, 1) := by decide +kernel
theorem d_Sp_take_1 : decode prog_1_method_11_code 1 = .ok (.invokestatic 57, 3) := by decide +kernel
theorem d_Sp_take_4 : decode prog_1_method_11_code 4 = .ok (.ifCond .ne (11), 3) := by decide +kernel
theorem d_Sp_take_7 : decode prog_1_method_11_code 7 = .ok (.new 61, 3) := by decide +kernel
theorem d_Sp_take_10 : decode prog_1_method_11_code 10 = .ok (.dup, 1) := by decide +kernel
theorem d_Sp_take_11 : decode prog_1_method_11_code 11 = .ok (.invokespecial 63, 3) := by decide +kernel
theorem d_Sp_take_14 : decode prog_1_method_11_code 14 = .ok (.athrow, 1) := by decide +kernel
theorem d_Sp_take_15 : decode prog_1_method_11_code 15 = .ok (.aload_n 0, 1) := by decide +kernel
theorem d_Sp_take_16 : decode prog_1_method_11_code 16 = .ok (.getfield 18, 3) := by decide +kernel
theorem d_Sp_take_19 : decode prog_1_method_11_code 19 = .ok (.iload_n 1, 1) := by decide +kernel
theorem d_Sp_take_20 : decode prog_1_method_11_code 20 = .ok (.aaload, 1) := by decide +kernel
theorem d_Sp_take_21 : decode prog_1_method_11_code 21 = .ok (.getfield 134, 3) := by decide +kernel
theorem d_Sp_take_24 : decode prog_1_method_11_code 24 = .ok (.invokevirtual 138, 3) := by decide +kernel
theorem d_Sp_take_27 : decode prog_1_method_11_code 27 = .ok (.istore_n 2, 1) := by decide +kernel
theorem d_Sp_take_28 : decode prog_1_method_11_code 28 = .ok (.iload_n 2, 1) := by decide +kernel
theorem d_Sp_take_29 : decode prog_1_method_11_code 29 = .ok (.iconst (-1), 1) := by decide +kernel
theorem d_Sp_take_30 : decode prog_1_method_11_code 30 = .ok (.if_icmp .ne (11), 3) := by decide +kernel
theorem d_Sp_take_33 : decode prog_1_method_11_code 33 = .ok (.new 144, 3) := by decide +kernel
theorem d_Sp_take_36 : decode prog_1_method_11_code 36 = .ok (.dup, 1) := by decide +kernel
theorem d_Sp_take_37 : decode prog_1_method_11_code 37 = .ok (.invokespecial 146, 3) := by decide +kernel
theorem d_Sp_take_40 : decode prog_1_method_11_code 40 = .ok (.athrow, 1) := by decide +kernel
theorem d_Sp_take_41 : decode prog_1_method_11_code 41 = .ok (.iload_n 2, 1) := by decide +kernel
theorem d_Sp_take_42 : decode prog_1_method_11_code 42 = .ok (.ireturn, 1) := by decide +kernel
def F_Sp_take (N : Nat → Nat) (v0 : Nat) (x1 : Int32) (σ : rs_Mem) (Q : Int32 → rs_Mem → Prop) (QT : Nat → rs_Mem → Prop) : Prop :=
  (F_Sp_isPeer N x1 σ (fun x52 σ51 => ((¬ (x52 = 0) → (vp_in x1 (N (rs_R σ51 v0 1)) ∧ (F_Ob_pull N (rs_R σ51 (rs_R σ51 (rs_R σ51 v0 1) x1.toNatClampNeg) 13) σ51 (fun x58 σ57 => ((¬ (x58 = (-1 : Int32)) → (Q x58 σ57)) ∧ (x58 = (-1 : Int32) → (QT 3 σ57))))))) ∧ (x52 = 0 → (QT 1 σ51)))))
abbrev y_Sp_take : MethodName := ({ cls := "RouteSpeaker", name := "take", desc := "(I)I" } : Jvm.MethodName)
theorem rc_Sp_take : rs_Cal y_Sp_take prog_1_method_11_code 3 (some .int) 1 := ⟨tw_833, tw_1, by decide, by decide, by decide +kernel⟩
set_option maxRecDepth 20000 in
theorem J_Sp_take (l : Launch) (hfl : l.flags = flags0) {G : rs_G} {Bm : Nat} {S : rs_Shp} {v0 : Nat} {x1 : Int32} {σ : rs_Mem} {Q : Int32 → rs_Mem → Prop} {QT : Nat → rs_Mem → Prop} (h_v0 : rs_Ok S 1 v0) (hF : F_Sp_take S.2.2 v0 x1 σ Q QT) :
    rs_MetT l y_Sp_take prog_1_method_11_code 3 (some .int) { frames := 6, cells := 1, slots := 6, locals := 110 } G Bm S σ [.ref (Bm + v0), .int x1] (rs_Qi G Bm S Q) QT := by
  refine rs_metT (own := "RouteSpeaker") hfl (by decide) rfl (Nat.le_of_ble_eq_true rfl) (fun p e s m below meth c ls C hXC hl hH hT hS => ?_)
  replace hl : lv_has ls 3 [(0, .ref (Bm + v0)), (1, .int x1)] := hl
  have hx := C.1
  have hb := C.2.1
  unfold F_Sp_take at hF
  refine lv_iload_n hx hb d_Sp_take_0 rfl (lv_at hl 1 rfl) ?_
  refine rs_ci (rs_runS C hH hT hl (J_Sp_isPeer l hF) rc_Sp_isPeer tw_517 tw_518 rfl ⟨⟨rfl, rfl⟩, by decide, by decide, by decide⟩ (Nat.le_of_ble_eq_true rfl) rfl d_Sp_take_1) hS (fun x52 σ51 H locs hH hT hS hF => ?_)
  refine lv_if_ne hx hb d_Sp_take_4 (tgt := 15) rfl (fun hc => ?_) (fun hc => ?_)
  · replace hF := hF.1 hc
    refine lv_aload_n hx hb d_Sp_take_15 rfl (lv_at hl 0 rfl) ?_
    refine rs_getR C hH hT h_v0 fk_1_1 tw_321 d_Sp_take_16 (fun h53 => ?_)
    refine lv_iload_n hx hb d_Sp_take_19 rfl (lv_at hl 1 rfl) ?_
    obtain ⟨g54, hF⟩ := hF
    refine rs_aald C hH hT h53 ak_24 g54 d_Sp_take_20 (fun h55 => ?_)
    refine rs_getR C hH hT h55 fk_6_13 tw_280 d_Sp_take_21 (fun h56 => ?_)
    refine rs_ci (rs_runV C hH hT hl (J_Ob_pull l h56 hF) rc_Ob_pull tw_834 tw_835 tw_836 h56 ⟨rfl, by decide, by decide⟩ rfl ⟨⟨rfl, rfl⟩, by decide, by decide, by decide⟩ (Nat.le_of_ble_eq_true rfl) rfl d_Sp_take_24) hS (fun x58 σ57 H locs hH hT hS hF => ?_)
    refine lv_istore_n hx hb d_Sp_take_27 rfl hl (by decide) (lv' := [(2, .int x58), (0, .ref (Bm + v0)), (1, .int x1)]) rfl (fun ls hl => ?_)
    refine lv_iload_n hx hb d_Sp_take_28 rfl (lv_at hl 0 rfl) ?_
    refine lv_iconst hx hb d_Sp_take_29 ki_m1 ?_
    refine lv_icmp_ne hx hb d_Sp_take_30 (tgt := 41) rfl (fun hc => ?_) (fun hc => ?_)
    · replace hF := hF.1 hc
      refine lv_iload_n hx hb d_Sp_take_41 rfl (lv_at hl 0 rfl) ?_
      exact rs_toT (rs_iret C hH hT hS hF d_Sp_take_42)
    · replace hF := hF.2 hc
      exact rs_throw C hXC hH hT hS th_144_146_3 ⟨⟨by decide, by decide⟩, by decide, Nat.le_of_ble_eq_true rfl⟩ hl.1 d_Sp_take_33 d_Sp_take_36 d_Sp_take_37 d_Sp_take_40 hF
  · replace hF := hF.2 hc
    exact rs_throw C hXC hH hT hS th_61_63_1 ⟨⟨by decide, by decide⟩, by decide, Nat.le_of_ble_eq_true rfl⟩ hl.1 d_Sp_take_7 d_Sp_take_10 d_Sp_take_11 d_Sp_take_14 hF
/-! RouteSpeaker.best(III)I -/
theorem d_Sp_best_0 : decode prog_1_method_14_code 0 = .ok (.iload_n 1, 1) := by decide +kernel
theorem d_Sp_best_1 : decode prog_1_method_14_code 1 = .ok (.iload_n 2, 1) := by decide +kernel
theorem d_Sp_best_2 : decode prog_1_method_14_code 2 = .ok (.invokestatic 80, 3) := by decide +kernel
theorem d_Sp_best_5 : decode prog_1_method_14_code 5 = .ok (.ifCond .eq (13), 3) := by decide +kernel
theorem d_Sp_best_8 : decode prog_1_method_14_code 8 = .ok (.iload_n 3, 1) := by decide +kernel
theorem d_Sp_best_9 : decode prog_1_method_14_code 9 = .ok (.ifCond .lt (9), 3) := by decide +kernel
theorem d_Sp_best_12 : decode prog_1_method_14_code 12 = .ok (.iload_n 3, 1) := by decide +kernel
theorem d_Sp_best_13 : decode prog_1_method_14_code 13 = .ok (.bipush (21), 2) := by decide +kernel
theorem d_Sp_best_15 : decode prog_1_method_14_code 15 = .ok (.if_icmp .le (11), 3) := by decide +kernel
theorem d_Sp_best_18 : decode prog_1_method_14_code 18 = .ok (.new 61, 3) := by decide +kernel
theorem d_Sp_best_21 : decode prog_1_method_14_code 21 = .ok (.dup, 1) := by decide +kernel
theorem d_Sp_best_22 : decode prog_1_method_14_code 22 = .ok (.invokespecial 63, 3) := by decide +kernel
theorem d_Sp_best_25 : decode prog_1_method_14_code 25 = .ok (.athrow, 1) := by decide +kernel
theorem d_Sp_best_26 : decode prog_1_method_14_code 26 = .ok (.aload_n 0, 1) := by decide +kernel
theorem d_Sp_best_27 : decode prog_1_method_14_code 27 = .ok (.getfield 10, 3) := by decide +kernel
theorem d_Sp_best_30 : decode prog_1_method_14_code 30 = .ok (.iload_n 1, 1) := by decide +kernel
theorem d_Sp_best_31 : decode prog_1_method_14_code 31 = .ok (.iload_n 2, 1) := by decide +kernel
theorem d_Sp_best_32 : decode prog_1_method_14_code 32 = .ok (.invokevirtual 117, 3) := by decide +kernel
theorem d_Sp_best_35 : decode prog_1_method_14_code 35 = .ok (.istore 4, 2) := by decide +kernel
theorem d_Sp_best_37 : decode prog_1_method_14_code 37 = .ok (.aload_n 0, 1) := by decide +kernel
theorem d_Sp_best_38 : decode prog_1_method_14_code 38 = .ok (.iload 4, 2) := by decide +kernel
theorem d_Sp_best_40 : decode prog_1_method_14_code 40 = .ok (.invokevirtual 183, 3) := by decide +kernel
theorem d_Sp_best_43 : decode prog_1_method_14_code 43 = .ok (.istore 5, 2) := by decide +kernel
theorem d_Sp_best_45 : decode prog_1_method_14_code 45 = .ok (.iload 5, 2) := by decide +kernel
theorem d_Sp_best_47 : decode prog_1_method_14_code 47 = .ok (.iconst (-1), 1) := by decide +kernel
theorem d_Sp_best_48 : decode prog_1_method_14_code 48 = .ok (.if_icmp .ne (11), 3) := by decide +kernel
theorem d_Sp_best_51 : decode prog_1_method_14_code 51 = .ok (.new 144, 3) := by decide +kernel
theorem d_Sp_best_54 : decode prog_1_method_14_code 54 = .ok (.dup, 1) := by decide +kernel
theorem d_Sp_best_55 : decode prog_1_method_14_code 55 = .ok (.invokespecial 146, 3) := by decide +kernel
theorem d_Sp_best_58 : decode prog_1_method_14_code 58 = .ok (.athrow, 1) := by decide +kernel
theorem d_Sp_best_59 : decode prog_1_method_14_code 59 = .ok (.iload_n 3, 1) := by decide +kernel
theorem d_Sp_best_60 : decode prog_1_method_14_code 60 = .ok (.lookupswitch (40) #[(0, 28), (1, 31)], 28) := by decide +kernel
theorem d_Sp_best_88 : decode prog_1_method_14_code 88 = .ok (.iload 5, 2) := by decide +kernel
theorem d_Sp_best_90 : decode prog_1_method_14_code 90 = .ok (.ireturn, 1) := by decide +kernel
theorem d_Sp_best_91 : decode prog_1_method_14_code 91 = .ok (.aload_n 0, 1) := by decide +kernel
theorem d_Sp_best_92 : decode prog_1_method_14_code 92 = .ok (.iload 5, 2) := by decide +kernel
theorem d_Sp_best_94 : decode prog_1_method_14_code 94 = .ok (.iload 4, 2) := by decide +kernel
theorem d_Sp_best_96 : decode prog_1_method_14_code 96 = .ok (.invokevirtual 187, 3) := by decide +kernel
theorem d_Sp_best_99 : decode prog_1_method_14_code 99 = .ok (.ireturn, 1) := by decide +kernel
theorem d_Sp_best_100 : decode prog_1_method_14_code 100 = .ok (.aload_n 0, 1) := by decide +kernel
theorem d_Sp_best_101 : decode prog_1_method_14_code 101 = .ok (.iload 5, 2) := by decide +kernel
theorem d_Sp_best_103 : decode prog_1_method_14_code 103 = .ok (.iload 4, 2) := by decide +kernel
theorem d_Sp_best_105 : decode prog_1_method_14_code 105 = .ok (.invokevirtual 190, 3) := by decide +kernel
theorem d_Sp_best_108 : decode prog_1_method_14_code 108 = .ok (.iload_n 3, 1) := by decide +kernel
theorem d_Sp_best_109 : decode prog_1_method_14_code 109 = .ok (.invokevirtual 194, 3) := by decide +kernel
theorem d_Sp_best_112 : decode prog_1_method_14_code 112 = .ok (.ireturn, 1) := by decide +kernel
def F_Sp_best (N : Nat → Nat) (v0 : Nat) (x1 : Int32) (x2 : Int32) (x3 : Int32) (σ : rs_Mem) (Q : Int32 → rs_Mem → Prop) (QT : Nat → rs_Mem → Prop) : Prop :=
  (F_Sp_isPrefix N x1 x2 σ (fun x52 σ51 => ((x52 = 0 → (QT 1 σ51)) ∧ (¬ (x52 = 0) → ((x3 < 0 → (QT 1 σ51)) ∧ (¬ (x3 < 0) → ((x3 ≤ (21 : Int32) → (F_Px_find N (rs_R σ51 v0 0) x1 x2 σ51 (fun x55 σ54 => (F_Sp_chooseFor N v0 x55 σ54 (fun x57 σ56 => ((¬ (x57 = (-1 : Int32)) → ((x3 = 0 → (Q x57 σ56)) ∧ (¬ x3 = 0 → ((x3 = 1 → (F_Sp_preferenceOf N v0 x57 x55 σ56 (fun x59 σ58 => (Q x59 σ58)))) ∧ (¬ x3 = 1 → (F_Sp_routeOf N v0 x57 x55 σ56 (fun v59 σ58 => (F_Ro_detail N v59 x3 σ58 (fun x61 σ60 => (Q x61 σ60)))))))))) ∧ (x57 = (-1 : Int32) → (QT 3 σ56)))))))) ∧ (¬ (x3 ≤ (21 : Int32)) → (QT 1 σ51)))))))))
abbrev y_Sp_best : MethodName := ({ cls := "RouteSpeaker", name := "best", desc := "(III)I" } : Jvm.MethodName)
theorem rc_Sp_best : rs_Cal y_Sp_best prog_1_method_14_code 6 (some .int) 3 := ⟨tw_859, tw_1, by decide, by decide, by decide +kernel⟩
set_option maxRecDepth 20000 in
theorem J_Sp_best (l : Launch) (hfl : l.flags = flags0) {G : rs_G} {Bm : Nat} {S : rs_Shp} {v0 : Nat} {x1 : Int32} {x2 : Int32} {x3 : Int32} {σ : rs_Mem} {Q : Int32 → rs_Mem → Prop} {QT : Nat → rs_Mem → Prop} (h_v0 : rs_Ok S 1 v0) (hF : F_Sp_best S.2.2 v0 x1 x2 x3 σ Q QT) :
    rs_MetT l y_Sp_best prog_1_method_14_code 6 (some .int) { frames := 6, cells := 1, slots := 6, locals := 110 } G Bm S σ [.ref (Bm + v0), .int x1, .int x2, .int x3] (rs_Qi G Bm S Q) QT := by
  refine rs_metT (own := "RouteSpeaker") hfl (by decide) rfl (Nat.le_of_ble_eq_true rfl) (fun p e s m below meth c ls C hXC hl hH hT hS => ?_)
  replace hl : lv_has ls 6 [(0, .ref (Bm + v0)), (1, .int x1), (2, .int x2), (3, .int x3)] := hl
  have hx := C.1
  have hb := C.2.1
  unfold F_Sp_best at hF
  refine lv_iload_n hx hb d_Sp_best_0 rfl (lv_at hl 1 rfl) ?_
  refine lv_iload_n hx hb d_Sp_best_1 rfl (lv_at hl 2 rfl) ?_
  refine rs_ci (rs_runS C hH hT hl (J_Sp_isPrefix l hF) rc_Sp_isPrefix tw_625 tw_626 rfl ⟨⟨rfl, rfl⟩, by decide, by decide, by decide⟩ (Nat.le_of_ble_eq_true rfl) rfl d_Sp_best_2) hS (fun x52 σ51 H locs hH hT hS hF => ?_)
  refine lv_if_eq hx hb d_Sp_best_5 (tgt := 18) rfl (fun hc => ?_) (fun hc => ?_)
  · replace hF := hF.1 hc
    exact rs_throw C hXC hH hT hS th_61_63_1 ⟨⟨by decide, by decide⟩, by decide, Nat.le_of_ble_eq_true rfl⟩ hl.1 d_Sp_best_18 d_Sp_best_21 d_Sp_best_22 d_Sp_best_25 hF
  · replace hF := hF.2 hc
    refine lv_iload_n hx hb d_Sp_best_8 rfl (lv_at hl 3 rfl) ?_
    refine lv_if_lt hx hb d_Sp_best_9 (tgt := 18) rfl (fun hc => ?_) (fun hc => ?_)
    · replace hF := hF.1 hc
      exact rs_throw C hXC hH hT hS th_61_63_1 ⟨⟨by decide, by decide⟩, by decide, Nat.le_of_ble_eq_true rfl⟩ hl.1 d_Sp_best_18 d_Sp_best_21 d_Sp_best_22 d_Sp_best_25 hF
    · replace hF := hF.2 hc
      refine lv_iload_n hx hb d_Sp_best_12 rfl (lv_at hl 3 rfl) ?_
      refine lv_bipush hx hb d_Sp_best_13 kb_21 ?_
      refine lv_icmp_le hx hb d_Sp_best_15 (tgt := 26) rfl (fun hc => ?_) (fun hc => ?_)
      · replace hF := hF.1 hc
        refine lv_aload_n hx hb d_Sp_best_26 rfl (lv_at hl 0 rfl) ?_
        refine rs_getR C hH hT h_v0 fk_1_0 tw_320 d_Sp_best_27 (fun h53 => ?_)
        refine lv_iload_n hx hb d_Sp_best_30 rfl (lv_at hl 1 rfl) ?_
        refine lv_iload_n hx hb d_Sp_best_31 rfl (lv_at hl 2 rfl) ?_
        refine rs_ci (rs_runV C hH hT hl (J_Px_find l h53 hF) rc_Px_find tw_672 tw_662 tw_663 h53 ⟨rfl, by decide, by decide⟩ rfl ⟨⟨rfl, rfl⟩, by decide, by decide, by decide⟩ (Nat.le_of_ble_eq_true rfl) rfl d_Sp_best_32) hS (fun x55 σ54 H locs hH hT hS hF => ?_)
        refine lv_istore hx hb d_Sp_best_35 hl (by decide) (lv' := [(4, .int x55), (0, .ref (Bm + v0)), (1, .int x1), (2, .int x2), (3, .int x3)]) rfl (fun ls hl => ?_)
        refine lv_aload_n hx hb d_Sp_best_37 rfl (lv_at hl 1 rfl) ?_
        refine lv_iload hx hb d_Sp_best_38 (lv_at hl 0 rfl) ?_
        refine rs_ci (rs_runV C hH hT hl (J_Sp_chooseFor l h_v0 hF) rc_Sp_chooseFor tw_381 tw_383 ts_5 h_v0 ⟨rfl, by decide, by decide⟩ rfl ⟨⟨rfl, rfl⟩, by decide, by decide, by decide⟩ (Nat.le_of_ble_eq_true rfl) rfl d_Sp_best_40) hS (fun x57 σ56 H locs hH hT hS hF => ?_)
        refine lv_istore hx hb d_Sp_best_43 hl (by decide) (lv' := [(5, .int x57), (4, .int x55), (0, .ref (Bm + v0)), (1, .int x1), (2, .int x2), (3, .int x3)]) rfl (fun ls hl => ?_)
        refine lv_iload hx hb d_Sp_best_45 (lv_at hl 0 rfl) ?_
        refine lv_iconst hx hb d_Sp_best_47 ki_m1 ?_
        refine lv_icmp_ne hx hb d_Sp_best_48 (tgt := 59) rfl (fun hc => ?_) (fun hc => ?_)
        · replace hF := hF.1 hc
          refine lv_iload_n hx hb d_Sp_best_59 rfl (lv_at hl 5 rfl) ?_
          by_cases hs0 : x3 = 0
          · replace hF := hF.1 hs0
            refine lv_lookup hx hb d_Sp_best_60 (by decide) (off := 28) (by rw [hs0]; rfl) (tgt := 88) rfl ?_
            refine lv_iload hx hb d_Sp_best_88 (lv_at hl 0 rfl) ?_
            exact rs_toT (rs_iret C hH hT hS hF d_Sp_best_90)
          · replace hF := hF.2 hs0
            by_cases hs1 : x3 = 1
            · replace hF := hF.1 hs1
              refine lv_lookup hx hb d_Sp_best_60 (by decide) (off := 31) (by rw [hs1]; rfl) (tgt := 91) rfl ?_
              refine lv_aload_n hx hb d_Sp_best_91 rfl (lv_at hl 2 rfl) ?_
              refine lv_iload hx hb d_Sp_best_92 (lv_at hl 0 rfl) ?_
              refine lv_iload hx hb d_Sp_best_94 (lv_at hl 1 rfl) ?_
              refine rs_ci (rs_runV C hH hT hl (J_Sp_preferenceOf l h_v0 hF) rc_Sp_preferenceOf tw_411 tw_413 ts_7 h_v0 ⟨rfl, by decide, by decide⟩ rfl ⟨⟨rfl, rfl⟩, by decide, by decide, by decide⟩ (Nat.le_of_ble_eq_true rfl) rfl d_Sp_best_96) hS (fun x59 σ58 H locs hH hT hS hF => ?_)
              exact rs_toT (rs_iret C hH hT hS hF d_Sp_best_99)
            · replace hF := hF.2 hs1
              refine lv_lookup hx hb d_Sp_best_60 (by decide) (off := 40) (by rw [lv_osw hs0 (by decide), lv_osw hs1 (by decide)]; rfl) (tgt := 100) rfl ?_
              refine lv_aload_n hx hb d_Sp_best_100 rfl (lv_at hl 2 rfl) ?_
              refine lv_iload hx hb d_Sp_best_101 (lv_at hl 0 rfl) ?_
              refine lv_iload hx hb d_Sp_best_103 (lv_at hl 1 rfl) ?_
              refine rs_cr (rs_runV C hH hT hl (J_Sp_routeOf l h_v0 hF) rc_Sp_routeOf tw_415 tw_417 ts_8 h_v0 ⟨rfl, by decide, by decide⟩ rfl ⟨⟨rfl, rfl⟩, by decide, by decide, by decide⟩ (Nat.le_of_ble_eq_true rfl) rfl d_Sp_best_105) hS (fun v59 σ58 H locs h_v59 hH hT hS hF => ?_)
              refine lv_iload_n hx hb d_Sp_best_108 rfl (lv_at hl 5 rfl) ?_
              refine rs_ci (rs_runV C hH hT hl (J_Ro_detail l h_v59 hF) rc_Ro_detail tw_860 tw_861 tw_862 h_v59 ⟨rfl, by decide, by decide⟩ rfl ⟨⟨rfl, rfl⟩, by decide, by decide, by decide⟩ (Nat.le_of_ble_eq_true rfl) rfl d_Sp_best_109) hS (fun x61 σ60 H locs hH hT hS hF => ?_)
              exact rs_toT (rs_iret C hH hT hS hF d_Sp_best_112)
        · replace hF := hF.2 hc
          exact rs_throw C hXC hH hT hS th_144_146_3 ⟨⟨by decide, by decide⟩, by decide, Nat.le_of_ble_eq_true rfl⟩ hl.1 d_Sp_best_51 d_Sp_best_54 d_Sp_best_55 d_Sp_best_58 hF
      · replace hF := hF.2 hc
        exact rs_throw C hXC hH hT hS th_61_63_1 ⟨⟨by decide, by decide⟩, by decide, Nat.le_of_ble_eq_true rfl⟩ hl.1 d_Sp_best_18 d_Sp_best_21 d_Sp_best_22 d_Sp_best_25 hF
/-! RouteSpeaker.flaw(III)I -/
theorem d_Sp_flaw_0 : decode prog_1_method_15_code 0 = .ok (.iload_n 1, 1) := by decide +kernel
theorem d_Sp_flaw_1 : decode prog_1_method_15_code 1 = .ok (.invokestatic 57, 3) := by decide +kernel
theorem d_Sp_flaw_4 : decode prog_1_method_15_code 4 = .ok (.ifCond .eq (11), 3) := by decide +kernel
theorem d_Sp_flaw_7 : decode prog_1_method_15_code 7 = .ok (.iload_n 2, 1) := by decide +kernel
theorem d_Sp_flaw_8 : decode prog_1_method_15_code 8 = .ok (.iload_n 3, 1) := by decide +kernel
theorem d_Sp_flaw_9 : decode prog_1_method_15_code 9 = .ok (.invokestatic 80, 3) := by decide +kernel
theorem d_Sp_flaw_12 : decode prog_1_method_15_code 12 = .ok (.ifCond .ne (11), 3) := by decide +kernel
theorem d_Sp_flaw_15 : decode prog_1_method_15_code 15 = .ok (.new 61, 3) := by decide +kernel
theorem d_Sp_flaw_18 : decode prog_1_method_15_code 18 = .ok (.dup, 1) := by decide +kernel
theorem d_Sp_flaw_19 : decode prog_1_method_15_code 19 = .ok (.invokespecial 63, 3) := by decide +kernel
theorem d_Sp_flaw_22 : decode prog_1_method_15_code 22 = .ok (.athrow, 1) := by decide +kernel
theorem d_Sp_flaw_23 : decode prog_1_method_15_code 23 = .ok (.aload_n 0, 1) := by decide +kernel
theorem d_Sp_flaw_24 : decode prog_1_method_15_code 24 = .ok (.getfield 10, 3) := by decide +kernel
theorem d_Sp_flaw_27 : decode prog_1_method_15_code 27 = .ok (.iload_n 2, 1) := by decide +kernel
theorem d_Sp_flaw_28 : decode prog_1_method_15_code 28 = .ok (.iload_n 3, 1) := by decide +kernel
theorem d_Sp_flaw_29 : decode prog_1_method_15_code 29 = .ok (.invokevirtual 117, 3) := by decide +kernel
theorem d_Sp_flaw_32 : decode prog_1_method_15_code 32 = .ok (.istore 4, 2) := by decide +kernel
theorem d_Sp_flaw_34 : decode prog_1_method_15_code 34 = .ok (.aload_n 0, 1) := by decide +kernel
theorem d_Sp_flaw_35 : decode prog_1_method_15_code 35 = .ok (.getfield 18, 3) := by decide +kernel
theorem d_Sp_flaw_38 : decode prog_1_method_15_code 38 = .ok (.iload_n 1, 1) := by decide +kernel
theorem d_Sp_flaw_39 : decode prog_1_method_15_code 39 = .ok (.aaload, 1) := by decide +kernel
theorem d_Sp_flaw_40 : decode prog_1_method_15_code 40 = .ok (.getfield 150, 3) := by decide +kernel
theorem d_Sp_flaw_43 : decode prog_1_method_15_code 43 = .ok (.iload 4, 2) := by decide +kernel
theorem d_Sp_flaw_45 : decode prog_1_method_15_code 45 = .ok (.invokevirtual 197, 3) := by decide +kernel
theorem d_Sp_flaw_48 : decode prog_1_method_15_code 48 = .ok (.ifCond .ne (11), 3) := by decide +kernel
theorem d_Sp_flaw_51 : decode prog_1_method_15_code 51 = .ok (.new 144, 3) := by decide +kernel
theorem d_Sp_flaw_54 : decode prog_1_method_15_code 54 = .ok (.dup, 1) := by decide +kernel
theorem d_Sp_flaw_55 : decode prog_1_method_15_code 55 = .ok (.invokespecial 146, 3) := by decide +kernel
theorem d_Sp_flaw_58 : decode prog_1_method_15_code 58 = .ok (.athrow, 1) := by decide +kernel
theorem d_Sp_flaw_59 : decode prog_1_method_15_code 59 = .ok (.aload_n 0, 1) := by decide +kernel
theorem d_Sp_flaw_60 : decode prog_1_method_15_code 60 = .ok (.iload_n 1, 1) := by decide +kernel
theorem d_Sp_flaw_61 : decode prog_1_method_15_code 61 = .ok (.iload 4, 2) := by decide +kernel
theorem d_Sp_flaw_63 : decode prog_1_method_15_code 63 = .ok (.invokevirtual 200, 3) := by decide +kernel
theorem d_Sp_flaw_66 : decode prog_1_method_15_code 66 = .ok (.ireturn, 1) := by decide +kernel
def F_Sp_flaw (N : Nat → Nat) (v0 : Nat) (x1 : Int32) (x2 : Int32) (x3 : Int32) (σ : rs_Mem) (Q : Int32 → rs_Mem → Prop) (QT : Nat → rs_Mem → Prop) : Prop :=
  (F_Sp_isPeer N x1 σ (fun x52 σ51 => ((x52 = 0 → (QT 1 σ51)) ∧ (¬ (x52 = 0) → (F_Sp_isPrefix N x2 x3 σ51 (fun x54 σ53 => ((¬ (x54 = 0) → (F_Px_find N (rs_R σ53 v0 0) x2 x3 σ53 (fun x57 σ56 => (vp_in x1 (N (rs_R σ56 v0 1)) ∧ (F_In_has N (rs_R σ56 (rs_R σ56 (rs_R σ56 v0 1) x1.toNatClampNeg) 15) x57 σ56 (fun x63 σ62 => ((¬ (x63 = 0) → (F_Sp_flawsOf N v0 x1 x57 σ62 (fun x65 σ64 => (Q x65 σ64)))) ∧ (x63 = 0 → (QT 3 σ62))))))))) ∧ (x54 = 0 → (QT 1 σ53)))))))))
abbrev y_Sp_flaw : MethodName := ({ cls := "RouteSpeaker", name := "flaw", desc := "(III)I" } : Jvm.MethodName)
theorem rc_Sp_flaw : rs_Cal y_Sp_flaw prog_1_method_15_code 5 (some .int) 3 := ⟨tw_873, tw_1, by decide, by decide, by decide +kernel⟩
set_option maxRecDepth 20000 in
theorem J_Sp_flaw (l : Launch) (hfl : l.flags = flags0) {G : rs_G} {Bm : Nat} {S : rs_Shp} {v0 : Nat} {x1 : Int32} {x2 : Int32} {x3 : Int32} {σ : rs_Mem} {Q : Int32 → rs_Mem → Prop} {QT : Nat → rs_Mem → Prop} (h_v0 : rs_Ok S 1 v0) (hF : F_Sp_flaw S.2.2 v0 x1 x2 x3 σ Q QT) :
    rs_MetT l y_Sp_flaw prog_1_method_15_code 5 (some .int) { frames := 6, cells := 1, slots := 6, locals := 110 } G Bm S σ [.ref (Bm + v0), .int x1, .int x2, .int x3] (rs_Qi G Bm S Q) QT := by
  refine rs_metT (own := "RouteSpeaker") hfl (by decide) rfl (Nat.le_of_ble_eq_true rfl) (fun p e s m below meth c ls C hXC hl hH hT hS => ?_)
  replace hl : lv_has ls 5 [(0, .ref (Bm + v0)), (1, .int x1), (2, .int x2), (3, .int x3)] := hl
  have hx := C.1
  have hb := C.2.1
  unfold F_Sp_flaw at hF
  refine lv_iload_n hx hb d_Sp_flaw_0 rfl (lv_at hl 1 rfl) ?_
  refine rs_ci (rs_runS C hH hT hl (J_Sp_isPeer l hF) rc_Sp_isPeer tw_517 tw_518 rfl ⟨⟨rfl, rfl⟩, by decide, by decide, by decide⟩ (Nat.le_of_ble_eq_true rfl) rfl d_Sp_flaw_1) hS (fun x52 σ51 H locs hH hT hS hF => ?_)
  refine lv_if_eq hx hb d_Sp_flaw_4 (tgt := 15) rfl (fun hc => ?_) (fun hc => ?_)
  · replace hF := hF.1 hc
    exact rs_throw C hXC hH hT hS th_61_63_1 ⟨⟨by decide, by decide⟩, by decide, Nat.le_of_ble_eq_true rfl⟩ hl.1 d_Sp_flaw_15 d_Sp_flaw_18 d_Sp_flaw_19 d_Sp_flaw_22 hF
  · replace hF := hF.2 hc
    refine lv_iload_n hx hb d_Sp_flaw_7 rfl (lv_at hl 2 rfl) ?_
    refine lv_iload_n hx hb d_Sp_flaw_8 rfl (lv_at hl 3 rfl) ?_
    refine rs_ci (rs_runS C hH hT hl (J_Sp_isPrefix l hF) rc_Sp_isPrefix tw_625 tw_626 rfl ⟨⟨rfl, rfl⟩, by decide, by decide, by decide⟩ (Nat.le_of_ble_eq_true rfl) rfl d_Sp_flaw_9) hS (fun x54 σ53 H locs hH hT hS hF => ?_)
    refine lv_if_ne hx hb d_Sp_flaw_12 (tgt := 23) rfl (fun hc => ?_) (fun hc => ?_)
    · replace hF := hF.1 hc
      refine lv_aload_n hx hb d_Sp_flaw_23 rfl (lv_at hl 0 rfl) ?_
      refine rs_getR C hH hT h_v0 fk_1_0 tw_320 d_Sp_flaw_24 (fun h55 => ?_)
      refine lv_iload_n hx hb d_Sp_flaw_27 rfl (lv_at hl 2 rfl) ?_
      refine lv_iload_n hx hb d_Sp_flaw_28 rfl (lv_at hl 3 rfl) ?_
      refine rs_ci (rs_runV C hH hT hl (J_Px_find l h55 hF) rc_Px_find tw_672 tw_662 tw_663 h55 ⟨rfl, by decide, by decide⟩ rfl ⟨⟨rfl, rfl⟩, by decide, by decide, by decide⟩ (Nat.le_of_ble_eq_true rfl) rfl d_Sp_flaw_29) hS (fun x57 σ56 H locs hH hT hS hF => ?_)
      refine lv_istore hx hb d_Sp_flaw_32 hl (by decide) (lv' := [(4, .int x57), (0, .ref (Bm + v0)), (1, .int x1), (2, .int x2), (3, .int x3)]) rfl (fun ls hl => ?_)
      refine lv_aload_n hx hb d_Sp_flaw_34 rfl (lv_at hl 1 rfl) ?_
      refine rs_getR C hH hT h_v0 fk_1_1 tw_321 d_Sp_flaw_35 (fun h58 => ?_)
      refine lv_iload_n hx hb d_Sp_flaw_38 rfl (lv_at hl 2 rfl) ?_
      obtain ⟨g59, hF⟩ := hF
      refine rs_aald C hH hT h58 ak_24 g59 d_Sp_flaw_39 (fun h60 => ?_)
      refine rs_getR C hH hT h60 fk_6_15 tw_283 d_Sp_flaw_40 (fun h61 => ?_)
      refine lv_iload hx hb d_Sp_flaw_43 (lv_at hl 0 rfl) ?_
      refine rs_ci (rs_runV C hH hT hl (J_In_has l h61 hF) rc_In_has tw_389 tw_390 tw_391 h61 ⟨rfl, by decide, by decide⟩ rfl ⟨⟨rfl, rfl⟩, by decide, by decide, by decide⟩ (Nat.le_of_ble_eq_true rfl) rfl d_Sp_flaw_45) hS (fun x63 σ62 H locs hH hT hS hF => ?_)
      refine lv_if_ne hx hb d_Sp_flaw_48 (tgt := 59) rfl (fun hc => ?_) (fun hc => ?_)
      · replace hF := hF.1 hc
        refine lv_aload_n hx hb d_Sp_flaw_59 rfl (lv_at hl 1 rfl) ?_
        refine lv_iload_n hx hb d_Sp_flaw_60 rfl (lv_at hl 2 rfl) ?_
        refine lv_iload hx hb d_Sp_flaw_61 (lv_at hl 0 rfl) ?_
        refine rs_ci (rs_runV C hH hT hl (J_Sp_flawsOf l h_v0 hF) rc_Sp_flawsOf tw_393 tw_395 ts_6 h_v0 ⟨rfl, by decide, by decide⟩ rfl ⟨⟨rfl, rfl⟩, by decide, by decide, by decide⟩ (Nat.le_of_ble_eq_true rfl) rfl d_Sp_flaw_63) hS (fun x65 σ64 H locs hH hT hS hF => ?_)
        exact rs_toT (rs_iret C hH hT hS hF d_Sp_flaw_66)
      · replace hF := hF.2 hc
        exact rs_throw C hXC hH hT hS th_144_146_3 ⟨⟨by decide, by decide⟩, by decide, Nat.le_of_ble_eq_true rfl⟩ hl.1 d_Sp_flaw_51 d_Sp_flaw_54 d_Sp_flaw_55 d_Sp_flaw_58 hF
    · replace hF := hF.2 hc
      exact rs_throw C hXC hH hT hS th_61_63_1 ⟨⟨by decide, by decide⟩, by decide, Nat.le_of_ble_eq_true rfl⟩ hl.1 d_Sp_flaw_15 d_Sp_flaw_18 d_Sp_flaw_19 d_Sp_flaw_22 hF
/-! RouteSpeaker.penalty(III)D -/
theorem d_Sp_penalty_0 : decode prog_1_method_16_code 0 = .ok (.iload_n 1, 1) := by decide +kernel
theorem d_Sp_penalty_1 : decode prog_1_method_16_code 1 = .ok (.invokestatic 57, 3) := by decide +kernel
theorem d_Sp_penalty_4 : decode prog_1_method_16_code 4 = .ok (.ifCond .eq (11), 3) := by decide +kernel
theorem d_Sp_penalty_7 : decode prog_1_method_16_code 7 = .ok (.iload_n 2, 1) := by decide +kernel
theorem d_Sp_penalty_8 : decode prog_1_method_16_code 8 = .ok (.iload_n 3, 1) := by decide +kernel
theorem d_Sp_penalty_9 : decode prog_1_method_16_code 9 = .ok (.invokestatic 80, 3) := by decide +kernel
theorem d_Sp_penalty_12 : decode prog_1_method_16_code 12 = .ok (.ifCond .ne (11), 3) := by decide +kernel
theorem d_Sp_penalty_15 : decode prog_1_method_16_code 15 = .ok (.new 61, 3) := by decide +kernel
theorem d_Sp_penalty_18 : decode prog_1_method_16_code 18 = .ok (.dup, 1) := by decide +kernel
theorem d_Sp_penalty_19 : decode prog_1_method_16_code 19 = .ok (.invokespecial 63, 3) := by decide +kernel
theorem d_Sp_penalty_22 : decode prog_1_method_16_code 22 = .ok (.athrow, 1) := by decide +kernel
theorem d_Sp_penalty_23 : decode prog_1_method_16_code 23 = .ok (.aload_n 0, 1) := by decide +kernel
theorem d_Sp_penalty_24 : decode prog_1_method_16_code 24 = .ok (.getfield 18, 3) := by decide +kernel
theorem d_Sp_penalty_27 : decode prog_1_method_16_code 27 = .ok (.iload_n 1, 1) := by decide +kernel
theorem d_Sp_penalty_28 : decode prog_1_method_16_code 28 = .ok (.aaload, 1) := by decide +kernel
theorem d_Sp_penalty_29 : decode prog_1_method_16_code 29 = .ok (.getfield 150, 3) := by decide +kernel
theorem d_Sp_penalty_32 : decode prog_1_method_16_code 32 = .ok (.aload_n 0, 1) := by decide +kernel
theorem d_Sp_penalty_33 : decode prog_1_method_16_code 33 = .ok (.getfield 10, 3) := by decide +kernel
theorem d_Sp_penalty_36 : decode prog_1_method_16_code 36 = .ok (.iload_n 2, 1) := by decide +kernel
theorem d_Sp_penalty_37 : decode prog_1_method_16_code 37 = .ok (.iload_n 3, 1) := by decide +kernel
theorem d_Sp_penalty_38 : decode prog_1_method_16_code 38 = .ok (.invokevirtual 117, 3) := by decide +kernel
theorem d_Sp_penalty_41 : decode prog_1_method_16_code 41 = .ok (.invokevirtual 203, 3) := by decide +kernel
theorem d_Sp_penalty_44 : decode prog_1_method_16_code 44 = .ok (.dreturn, 1) := by decide +kernel
def F_Sp_penalty (N : Nat → Nat) (v0 : Nat) (x1 : Int32) (x2 : Int32) (x3 : Int32) (σ : rs_Mem) (Q : UInt64 → rs_Mem → Prop) (QT : Nat → rs_Mem → Prop) : Prop :=
  (F_Sp_isPeer N x1 σ (fun x52 σ51 => ((x52 = 0 → (QT 1 σ51)) ∧ (¬ (x52 = 0) → (F_Sp_isPrefix N x2 x3 σ51 (fun x54 σ53 => ((¬ (x54 = 0) → (vp_in x1 (N (rs_R σ53 v0 1)) ∧ (F_Px_find N (rs_R σ53 v0 0) x2 x3 σ53 (fun x61 σ60 => (F_In_penaltyAt N (rs_R σ53 (rs_R σ53 (rs_R σ53 v0 1) x1.toNatClampNeg) 15) x61 σ60 (fun x63 σ62 => (Q x63 σ62))))))) ∧ (x54 = 0 → (QT 1 σ53)))))))))
abbrev y_Sp_penalty : MethodName := ({ cls := "RouteSpeaker", name := "penalty", desc := "(III)D" } : Jvm.MethodName)
theorem rc_Sp_penalty : rs_Cal y_Sp_penalty prog_1_method_16_code 4 (some .double) 3 := ⟨tw_880, tw_1, by decide, by decide, by decide +kernel⟩
set_option maxRecDepth 20000 in
theorem J_Sp_penalty (l : Launch) (hfl : l.flags = flags0) {G : rs_G} {Bm : Nat} {S : rs_Shp} {v0 : Nat} {x1 : Int32} {x2 : Int32} {x3 : Int32} {σ : rs_Mem} {Q : UInt64 → rs_Mem → Prop} {QT : Nat → rs_Mem → Prop} (h_v0 : rs_Ok S 1 v0) (hF : F_Sp_penalty S.2.2 v0 x1 x2 x3 σ Q QT) :
    rs_MetT l y_Sp_penalty prog_1_method_16_code 4 (some .double) { frames := 6, cells := 1, slots := 6, locals := 110 } G Bm S σ [.ref (Bm + v0), .int x1, .int x2, .int x3] (rs_Qd G Bm S Q) QT := by
  refine rs_metT (own := "RouteSpeaker") hfl (by decide) rfl (Nat.le_of_ble_eq_true rfl) (fun p e s m below meth c ls C hXC hl hH hT hS => ?_)
  replace hl : lv_has ls 4 [(0, .ref (Bm + v0)), (1, .int x1), (2, .int x2), (3, .int x3)] := hl
  have hx := C.1
  have hb := C.2.1
  unfold F_Sp_penalty at hF
  refine lv_iload_n hx hb d_Sp_penalty_0 rfl (lv_at hl 1 rfl) ?_
  refine rs_ci (rs_runS C hH hT hl (J_Sp_isPeer l hF) rc_Sp_isPeer tw_517 tw_518 rfl ⟨⟨rfl, rfl⟩, by decide, by decide, by decide⟩ (Nat.le_of_ble_eq_true rfl) rfl d_Sp_penalty_1) hS (fun x52 σ51 H locs hH hT hS hF => ?_)
  refine lv_if_eq hx hb d_Sp_penalty_4 (tgt := 15) rfl (fun hc => ?_) (fun hc => ?_)
  · replace hF := hF.1 hc
    exact rs_throw C hXC hH hT hS th_61_63_1 ⟨⟨by decide, by decide⟩, by decide, Nat.le_of_ble_eq_true rfl⟩ hl.1 d_Sp_penalty_15 d_Sp_penalty_18 d_Sp_penalty_19 d_Sp_penalty_22 hF
  · replace hF := hF.2 hc
    refine lv_iload_n hx hb d_Sp_penalty_7 rfl (lv_at hl 2 rfl) ?_
    refine lv_iload_n hx hb d_Sp_penalty_8 rfl (lv_at hl 3 rfl) ?_
    refine rs_ci (rs_runS C hH hT hl (J_Sp_isPrefix l hF) rc_Sp_isPrefix tw_625 tw_626 rfl ⟨⟨rfl, rfl⟩, by decide, by decide, by decide⟩ (Nat.le_of_ble_eq_true rfl) rfl d_Sp_penalty_9) hS (fun x54 σ53 H locs hH hT hS hF => ?_)
    refine lv_if_ne hx hb d_Sp_penalty_12 (tgt := 23) rfl (fun hc => ?_) (fun hc => ?_)
    · replace hF := hF.1 hc
      refine lv_aload_n hx hb d_Sp_penalty_23 rfl (lv_at hl 0 rfl) ?_
      refine rs_getR C hH hT h_v0 fk_1_1 tw_321 d_Sp_penalty_24 (fun h55 => ?_)
      refine lv_iload_n hx hb d_Sp_penalty_27 rfl (lv_at hl 1 rfl) ?_
      obtain ⟨g56, hF⟩ := hF
      refine rs_aald C hH hT h55 ak_24 g56 d_Sp_penalty_28 (fun h57 => ?_)
      refine rs_getR C hH hT h57 fk_6_15 tw_283 d_Sp_penalty_29 (fun h58 => ?_)
      refine lv_aload_n hx hb d_Sp_penalty_32 rfl (lv_at hl 0 rfl) ?_
      refine rs_getR C hH hT h_v0 fk_1_0 tw_320 d_Sp_penalty_33 (fun h59 => ?_)
      refine lv_iload_n hx hb d_Sp_penalty_36 rfl (lv_at hl 2 rfl) ?_
      refine lv_iload_n hx hb d_Sp_penalty_37 rfl (lv_at hl 3 rfl) ?_
      refine rs_ci (rs_runV C hH hT hl (J_Px_find l h59 hF) rc_Px_find tw_672 tw_662 tw_663 h59 ⟨rfl, by decide, by decide⟩ rfl ⟨⟨rfl, rfl⟩, by decide, by decide, by decide⟩ (Nat.le_of_ble_eq_true rfl) rfl d_Sp_penalty_38) hS (fun x61 σ60 H locs hH hT hS hF => ?_)
      refine rs_cd (rs_runV C hH hT hl (J_In_penaltyAt l h58 hF) rc_In_penaltyAt tw_881 tw_882 tw_883 h58 ⟨rfl, by decide, by decide⟩ rfl ⟨⟨rfl, rfl⟩, by decide, by decide, by decide⟩ (Nat.le_of_ble_eq_true rfl) rfl d_Sp_penalty_41) hS (fun x63 σ62 H locs hH hT hS hF => ?_)
      exact rs_toT (rs_dret C hH hT hS hF d_Sp_penalty_44)
    · replace hF := hF.2 hc
      exact rs_throw C hXC hH hT hS th_61_63_1 ⟨⟨by decide, by decide⟩, by decide, Nat.le_of_ble_eq_true rfl⟩ hl.1 d_Sp_penalty_15 d_Sp_penalty_18 d_Sp_penalty_19 d_Sp_penalty_22 hF
/-! RouteSpeaker.forward(I)I -/
theorem d_Sp_forward_0 : decode prog_1_method_17_code 0 = .ok (.iload_n 1, 1) := by decide +kernel
theorem d_Sp_forward_1 : decode prog_1_method_17_code 1 = .ok (.ifCond .lt (10), 3) := by decide +kernel
theorem d_Sp_forward_4 : decode prog_1_method_17_code 4 = .ok (.iload_n 1, 1) := by decide +kernel
theorem d_Sp_forward_5 : decode prog_1_method_17_code 5 = .ok (.sipush (255), 3) := by decide +kernel
theorem d_Sp_forward_8 : decode prog_1_method_17_code 8 = .ok (.if_icmp .le (11), 3) := by decide +kernel
theorem d_Sp_forward_11 : decode prog_1_method_17_code 11 = .ok (.new 61, 3) := by decide +kernel
theorem d_Sp_forward_14 : decode prog_1_method_17_code 14 = .ok (.dup, 1) := by decide +kernel
theorem d_Sp_forward_15 : decode prog_1_method_17_code 15 = .ok (.invokespecial 63, 3) := by decide +kernel
theorem d_Sp_forward_18 : decode prog_1_method_17_code 18 = .ok (.athrow, 1) := by decide +kernel
theorem d_Sp_forward_19 : decode prog_1_method_17_code 19 = .ok (.iconst (-1), 1) := by decide +kernel
theorem d_Sp_forward_20 : decode prog_1_method_17_code 20 = .ok (.istore_n 2, 1) := by decide +kernel
theorem d_Sp_forward_21 : decode prog_1_method_17_code 21 = .ok (.iconst (-1), 1) := by decide +kernel
theorem d_Sp_forward_22 : decode prog_1_method_17_code 22 = .ok (.istore_n 3, 1) := by decide +kernel
theorem d_Sp_forward_23 : decode prog_1_method_17_code 23 = .ok (.iconst 0, 1) := by decide +kernel
theorem d_Sp_forward_24 : decode prog_1_method_17_code 24 = .ok (.istore 4, 2) := by decide +kernel
theorem d_Sp_forward_26 : decode prog_1_method_17_code 26 = .ok (.iload 4, 2) := by decide +kernel
theorem d_Sp_forward_28 : decode prog_1_method_17_code 28 = .ok (.aload_n 0, 1) := by decide +kernel
theorem d_Sp_forward_29 : decode prog_1_method_17_code 29 = .ok (.getfield 10, 3) := by decide +kernel
theorem d_Sp_forward_32 : decode prog_1_method_17_code 32 = .ok (.getfield 207, 3) := by decide +kernel
theorem d_Sp_forward_35 : decode prog_1_method_17_code 35 = .ok (.if_icmp .ge (68), 3) := by decide +kernel
theorem d_Sp_forward_38 : decode prog_1_method_17_code 38 = .ok (.aload_n 0, 1) := by decide +kernel
theorem d_Sp_forward_39 : decode prog_1_method_17_code 39 = .ok (.getfield 10, 3) := by decide +kernel
theorem d_Sp_forward_42 : decode prog_1_method_17_code 42 = .ok (.getfield 208, 3) := by decide +kernel
theorem d_Sp_forward_45 : decode prog_1_method_17_code 45 = .ok (.iload 4, 2) := by decide +kernel
theorem d_Sp_forward_47 : decode prog_1_method_17_code 47 = .ok (.iaload, 1) := by decide +kernel
theorem d_Sp_forward_48 : decode prog_1_method_17_code 48 = .ok (.istore 5, 2) := by decide +kernel
theorem d_Sp_forward_50 : decode prog_1_method_17_code 50 = .ok (.iload 5, 2) := by decide +kernel
theorem d_Sp_forward_52 : decode prog_1_method_17_code 52 = .ok (.iload_n 2, 1) := by decide +kernel
theorem d_Sp_forward_53 : decode prog_1_method_17_code 53 = .ok (.if_icmp .le (44), 3) := by decide +kernel
theorem d_Sp_forward_56 : decode prog_1_method_17_code 56 = .ok (.bipush (8), 2) := by decide +kernel
theorem d_Sp_forward_58 : decode prog_1_method_17_code 58 = .ok (.iload_n 1, 1) := by decide +kernel
theorem d_Sp_forward_59 : decode prog_1_method_17_code 59 = .ok (.iload 5, 2) := by decide +kernel
theorem d_Sp_forward_61 : decode prog_1_method_17_code 61 = .ok (.aload_n 0, 1) := by decide +kernel
theorem d_Sp_forward_62 : decode prog_1_method_17_code 62 = .ok (.getfield 10, 3) := by decide +kernel
theorem d_Sp_forward_65 : decode prog_1_method_17_code 65 = .ok (.getfield 212, 3) := by decide +kernel
theorem d_Sp_forward_68 : decode prog_1_method_17_code 68 = .ok (.iload 4, 2) := by decide +kernel
theorem d_Sp_forward_70 : decode prog_1_method_17_code 70 = .ok (.iaload, 1) := by decide +kernel
theorem d_Sp_forward_71 : decode prog_1_method_17_code 71 = .ok (.invokestatic 215, 3) := by decide +kernel
theorem d_Sp_forward_74 : decode prog_1_method_17_code 74 = .ok (.ifCond .eq (23), 3) := by decide +kernel
theorem d_Sp_forward_77 : decode prog_1_method_17_code 77 = .ok (.aload_n 0, 1) := by decide +kernel
theorem d_Sp_forward_78 : decode prog_1_method_17_code 78 = .ok (.iload 4, 2) := by decide +kernel
theorem d_Sp_forward_80 : decode prog_1_method_17_code 80 = .ok (.invokevirtual 183, 3) := by decide +kernel
theorem d_Sp_forward_83 : decode prog_1_method_17_code 83 = .ok (.istore 6, 2) := by decide +kernel
theorem d_Sp_forward_85 : decode prog_1_method_17_code 85 = .ok (.iload 6, 2) := by decide +kernel
theorem d_Sp_forward_87 : decode prog_1_method_17_code 87 = .ok (.iconst (-1), 1) := by decide +kernel
theorem d_Sp_forward_88 : decode prog_1_method_17_code 88 = .ok (.if_icmp .eq (9), 3) := by decide +kernel
theorem d_Sp_forward_91 : decode prog_1_method_17_code 91 = .ok (.iload 5, 2) := by decide +kernel
theorem d_Sp_forward_93 : decode prog_1_method_17_code 93 = .ok (.istore_n 2, 1) := by decide +kernel
theorem d_Sp_forward_94 : decode prog_1_method_17_code 94 = .ok (.iload 6, 2) := by decide +kernel
theorem d_Sp_forward_96 : decode prog_1_method_17_code 96 = .ok (.istore_n 3, 1) := by decide +kernel
theorem d_Sp_forward_97 : decode prog_1_method_17_code 97 = .ok (.iinc 4 (1), 3) := by decide +kernel
theorem d_Sp_forward_100 : decode prog_1_method_17_code 100 = .ok (.goto (-74), 3) := by decide +kernel
theorem d_Sp_forward_103 : decode prog_1_method_17_code 103 = .ok (.iload_n 3, 1) := by decide +kernel
theorem d_Sp_forward_104 : decode prog_1_method_17_code 104 = .ok (.iconst (-1), 1) := by decide +kernel
theorem d_Sp_forward_105 : decode prog_1_method_17_code 105 = .ok (.if_icmp .ne (11), 3) := by decide +kernel
theorem d_Sp_forward_108 : decode prog_1_method_17_code 108 = .ok (.new 144, 3) := by decide +kernel
theorem d_Sp_forward_111 : decode prog_1_method_17_code 111 = .ok (.dup, 1) := by decide +kernel
theorem d_Sp_forward_112 : decode prog_1_method_17_code 112 = .ok (.invokespecial 146, 3) := by decide +kernel
theorem d_Sp_forward_115 : decode prog_1_method_17_code 115 = .ok (.athrow, 1) := by decide +kernel
theorem d_Sp_forward_116 : decode prog_1_method_17_code 116 = .ok (.iload_n 3, 1) := by decide +kernel
theorem d_Sp_forward_117 : decode prog_1_method_17_code 117 = .ok (.ireturn, 1) := by decide +kernel
def G_Sp_forward_26 (N : Nat → Nat) (Q : Int32 → rs_Mem → Prop) (QT : Nat → rs_Mem → Prop) (K26 : Nat → Int32 → Int32 → Int32 → Int32 → rs_Mem → Prop) (v0 : Nat) (x1 : Int32) (x2 : Int32) (x3 : Int32) (x4 : Int32) (σ : rs_Mem) : Prop :=
  (((rs_I σ (rs_R σ v0 0) 3) ≤ x4 → ((¬ (x3 = (-1 : Int32)) → (Q x3 σ)) ∧ (x3 = (-1 : Int32) → (QT 3 σ)))) ∧ (¬ ((rs_I σ (rs_R σ v0 0) 3) ≤ x4) → (vp_in x4 (N (rs_R σ (rs_R σ v0 0) 0)) ∧ (∀ x55 : Int32, x55 = (rs_I σ (rs_R σ (rs_R σ v0 0) 0) x4.toNatClampNeg) → ((x55 ≤ x2 → (∀ x56 : Int32, x56 = x4 + (1 : Int32) → (K26 v0 x1 x2 x3 x56 σ))) ∧ (¬ (x55 ≤ x2) → (vp_in x4 (N (rs_R σ (rs_R σ v0 0) 1)) ∧ (F_Sp_isWithin N (8 : Int32) x1 x55 (rs_I σ (rs_R σ (rs_R σ v0 0) 1) x4.toNatClampNeg) σ (fun x60 σ59 => ((x60 = 0 → (∀ x61 : Int32, x61 = x4 + (1 : Int32) → (K26 v0 x1 x2 x3 x61 σ59))) ∧ (¬ (x60 = 0) → (F_Sp_chooseFor N v0 x4 σ59 (fun x62 σ61 => ((x62 = (-1 : Int32) → (∀ x63 : Int32, x63 = x4 + (1 : Int32) → (K26 v0 x1 x2 x3 x63 σ61))) ∧ (¬ (x62 = (-1 : Int32)) → (∀ x63 : Int32, x63 = x4 + (1 : Int32) → (K26 v0 x1 x55 x62 x63 σ61)))))))))))))))))
noncomputable def L_Sp_forward_26 (N : Nat → Nat) (Q : Int32 → rs_Mem → Prop) (QT : Nat → rs_Mem → Prop) (n : Nat) : Nat → Int32 → Int32 → Int32 → Int32 → rs_Mem → Prop := Nat.rec (motive := fun _ => Nat → Int32 → Int32 → Int32 → Int32 → rs_Mem → Prop) (fun _ _ _ _ _ _ => False) (fun _ K => G_Sp_forward_26 N Q QT K) n
def F_Sp_forward (N : Nat → Nat) (v0 : Nat) (x1 : Int32) (σ : rs_Mem) (Q : Int32 → rs_Mem → Prop) (QT : Nat → rs_Mem → Prop) : Prop :=
  ((x1 < 0 → (QT 1 σ)) ∧ (¬ (x1 < 0) → ((x1 ≤ (255 : Int32) → (∃ n : Nat, L_Sp_forward_26 N Q QT n v0 x1 (-1 : Int32) (-1 : Int32) (0 : Int32) σ)) ∧ (¬ (x1 ≤ (255 : Int32)) → (QT 1 σ)))))
set_option maxRecDepth 20000 in
theorem JL_Sp_forward_26 {p : Program} {l : Launch} {e : Env} {s : State} {m : MethodId} {args : Array Value} {below : List Frame} {meth : Method} {c : Code} {G : rs_G} {Bm : Nat} {S : rs_Shp} {Q : Int32 → rs_Mem → Prop} {QT : Nat → rs_Mem → Prop} (C : rs_C "RouteSpeaker" prog_1_method_17_code 7 (some .int) G p s m meth c args) (hXC : rs_XC l Bm s c) : ∀ n : Nat, ∀ (v0 : Nat) (x1 : Int32) (x2 : Int32) (x3 : Int32) (x4 : Int32) (σ : rs_Mem) (H : Heap) (locs : List Loc) (ls : Array Slot), rs_Ok S 1 v0 → rs_H G Bm S σ H → rs_T S σ → va_S (rs_A Bm) s.heap H locs → lv_has ls 7 [(0, .ref (Bm + v0)), (1, .int x1), (2, .int x2), (3, .int x3), (4, .int x4)] → (L_Sp_forward_26 S.2.2 Q QT n) v0 x1 x2 x3 x4 σ → W p l e { frames := 6, cells := 1, slots := 6, locals := 110 } s m args below meth c H locs 0 0 (rs_MQ below (rs_ET G Bm S (rs_Qi G Bm S Q) QT) args s) (F0 m 26 ls []) := by
  have hx := C.1
  have hb := C.2.1
  intro n
  induction n with
  | zero => intros; rename_i hF; exact hF.elim
  | succ n hK26 =>
    intro v0 x1 x2 x3 x4 σ H locs ls h_v0 hH hT hS hl hF
    replace hF : G_Sp_forward_26 S.2.2 Q QT (L_Sp_forward_26 S.2.2 Q QT n) v0 x1 x2 x3 x4 σ := hF
    unfold G_Sp_forward_26 at hF
    refine lv_iload hx hb d_Sp_forward_26 (lv_at hl 4 rfl) ?_
    refine lv_aload_n hx hb d_Sp_forward_28 rfl (lv_at hl 0 rfl) ?_
    refine rs_getR C hH hT h_v0 fk_1_0 tw_320 d_Sp_forward_29 (fun h51 => ?_)
    refine rs_getI C hH h51 fk_7_3 tw_42 d_Sp_forward_32 ?_
    refine lv_icmp_ge hx hb d_Sp_forward_35 (tgt := 103) rfl (fun hc => ?_) (fun hc => ?_)
    · replace hF := hF.1 hc
      refine lv_iload_n hx hb d_Sp_forward_103 rfl (lv_at hl 3 rfl) ?_
      refine lv_iconst hx hb d_Sp_forward_104 ki_m1 ?_
      refine lv_icmp_ne hx hb d_Sp_forward_105 (tgt := 116) rfl (fun hc => ?_) (fun hc => ?_)
      · replace hF := hF.1 hc
        refine lv_iload_n hx hb d_Sp_forward_116 rfl (lv_at hl 3 rfl) ?_
        exact rs_toT (rs_iret C hH hT hS hF d_Sp_forward_117)
      · replace hF := hF.2 hc
        exact rs_throw C hXC hH hT hS th_144_146_3 ⟨⟨by decide, by decide⟩, by decide, Nat.le_of_ble_eq_true rfl⟩ hl.1 d_Sp_forward_108 d_Sp_forward_111 d_Sp_forward_112 d_Sp_forward_115 hF
    · replace hF := hF.2 hc
      refine lv_aload_n hx hb d_Sp_forward_38 rfl (lv_at hl 0 rfl) ?_
      refine rs_getR C hH hT h_v0 fk_1_0 tw_320 d_Sp_forward_39 (fun h52 => ?_)
      refine rs_getR C hH hT h52 fk_7_0 tw_35 d_Sp_forward_42 (fun h53 => ?_)
      refine lv_iload hx hb d_Sp_forward_45 (lv_at hl 4 rfl) ?_
      obtain ⟨g54, hF⟩ := hF
      refine rs_iald C hH h53 g54 d_Sp_forward_47 ?_
      refine lv_topi (fun x55 ex55 => ?_)
      replace hF := hF x55 ex55
      refine lv_istore hx hb d_Sp_forward_48 hl (by decide) (lv' := [(5, .int x55), (0, .ref (Bm + v0)), (1, .int x1), (2, .int x2), (3, .int x3), (4, .int x4)]) rfl (fun ls hl => ?_)
      refine lv_iload hx hb d_Sp_forward_50 (lv_at hl 0 rfl) ?_
      refine lv_iload_n hx hb d_Sp_forward_52 rfl (lv_at hl 3 rfl) ?_
      refine lv_icmp_le hx hb d_Sp_forward_53 (tgt := 97) rfl (fun hc => ?_) (fun hc => ?_)
      · replace hF := hF.1 hc
        obtain ⟨x56, ex56⟩ : ∃ z : Int32, z = x4 + (1 : Int32) := ⟨_, rfl⟩
        replace hF := hF x56 ex56
        refine lv_iinc hx hb d_Sp_forward_97 hl (k := 5) rfl (v := x56) (by rw [ki_1, ex56]) (by decide) (lv' := [(4, .int x56), (5, .int x55), (0, .ref (Bm + v0)), (1, .int x1), (2, .int x2), (3, .int x3)]) rfl (fun ls hl => ?_)
        refine lv_goto hx hb d_Sp_forward_100 (tgt := 26) rfl ?_
        exact hK26 v0 x1 x2 x3 x56 σ _ _ _ h_v0 hH hT hS (lv_sub hl [2, 3, 4, 5, 0] rfl) hF
      · replace hF := hF.2 hc
        refine lv_bipush hx hb d_Sp_forward_56 kb_8 ?_
        refine lv_iload_n hx hb d_Sp_forward_58 rfl (lv_at hl 2 rfl) ?_
        refine lv_iload hx hb d_Sp_forward_59 (lv_at hl 0 rfl) ?_
        refine lv_aload_n hx hb d_Sp_forward_61 rfl (lv_at hl 1 rfl) ?_
        refine rs_getR C hH hT h_v0 fk_1_0 tw_320 d_Sp_forward_62 (fun h56 => ?_)
        refine rs_getR C hH hT h56 fk_7_1 tw_37 d_Sp_forward_65 (fun h57 => ?_)
        refine lv_iload hx hb d_Sp_forward_68 (lv_at hl 5 rfl) ?_
        obtain ⟨g58, hF⟩ := hF
        refine rs_iald C hH h57 g58 d_Sp_forward_70 ?_
        refine rs_ci (rs_runS C hH hT hl (J_Sp_isWithin l hF) rc_Sp_isWithin tw_892 tw_409 rfl ⟨⟨rfl, rfl⟩, by decide, by decide, by decide⟩ (Nat.le_of_ble_eq_true rfl) rfl d_Sp_forward_71) hS (fun x60 σ59 H locs hH hT hS hF => ?_)
        refine lv_if_eq hx hb d_Sp_forward_74 (tgt := 97) rfl (fun hc => ?_) (fun hc => ?_)
        · replace hF := hF.1 hc
          obtain ⟨x61, ex61⟩ : ∃ z : Int32, z = x4 + (1 : Int32) := ⟨_, rfl⟩
          replace hF := hF x61 ex61
          refine lv_iinc hx hb d_Sp_forward_97 hl (k := 5) rfl (v := x61) (by rw [ki_1, ex61]) (by decide) (lv' := [(4, .int x61), (5, .int x55), (0, .ref (Bm + v0)), (1, .int x1), (2, .int x2), (3, .int x3)]) rfl (fun ls hl => ?_)
          refine lv_goto hx hb d_Sp_forward_100 (tgt := 26) rfl ?_
          exact hK26 v0 x1 x2 x3 x61 σ59 _ _ _ h_v0 hH hT hS (lv_sub hl [2, 3, 4, 5, 0] rfl) hF
        · replace hF := hF.2 hc
          refine lv_aload_n hx hb d_Sp_forward_77 rfl (lv_at hl 1 rfl) ?_
          refine lv_iload hx hb d_Sp_forward_78 (lv_at hl 5 rfl) ?_
          refine rs_ci (rs_runV C hH hT hl (J_Sp_chooseFor l h_v0 hF) rc_Sp_chooseFor tw_381 tw_383 ts_5 h_v0 ⟨rfl, by decide, by decide⟩ rfl ⟨⟨rfl, rfl⟩, by decide, by decide, by decide⟩ (Nat.le_of_ble_eq_true rfl) rfl d_Sp_forward_80) hS (fun x62 σ61 H locs hH hT hS hF => ?_)
          refine lv_istore hx hb d_Sp_forward_83 hl (by decide) (lv' := [(6, .int x62), (5, .int x55), (0, .ref (Bm + v0)), (1, .int x1), (2, .int x2), (3, .int x3), (4, .int x4)]) rfl (fun ls hl => ?_)
          refine lv_iload hx hb d_Sp_forward_85 (lv_at hl 0 rfl) ?_
          refine lv_iconst hx hb d_Sp_forward_87 ki_m1 ?_
          refine lv_icmp_eq hx hb d_Sp_forward_88 (tgt := 97) rfl (fun hc => ?_) (fun hc => ?_)
          · replace hF := hF.1 hc
            obtain ⟨x63, ex63⟩ : ∃ z : Int32, z = x4 + (1 : Int32) := ⟨_, rfl⟩
            replace hF := hF x63 ex63
            refine lv_iinc hx hb d_Sp_forward_97 hl (k := 6) rfl (v := x63) (by rw [ki_1, ex63]) (by decide) (lv' := [(4, .int x63), (6, .int x62), (5, .int x55), (0, .ref (Bm + v0)), (1, .int x1), (2, .int x2), (3, .int x3)]) rfl (fun ls hl => ?_)
            refine lv_goto hx hb d_Sp_forward_100 (tgt := 26) rfl ?_
            exact hK26 v0 x1 x2 x3 x63 σ61 _ _ _ h_v0 hH hT hS (lv_sub hl [3, 4, 5, 6, 0] rfl) hF
          · replace hF := hF.2 hc
            refine lv_iload hx hb d_Sp_forward_91 (lv_at hl 1 rfl) ?_
            refine lv_istore_n hx hb d_Sp_forward_93 rfl hl (by decide) (lv' := [(2, .int x55), (6, .int x62), (5, .int x55), (0, .ref (Bm + v0)), (1, .int x1), (3, .int x3), (4, .int x4)]) rfl (fun ls hl => ?_)
            refine lv_iload hx hb d_Sp_forward_94 (lv_at hl 1 rfl) ?_
            refine lv_istore_n hx hb d_Sp_forward_96 rfl hl (by decide) (lv' := [(3, .int x62), (2, .int x55), (6, .int x62), (5, .int x55), (0, .ref (Bm + v0)), (1, .int x1), (4, .int x4)]) rfl (fun ls hl => ?_)
            obtain ⟨x63, ex63⟩ : ∃ z : Int32, z = x4 + (1 : Int32) := ⟨_, rfl⟩
            replace hF := hF x63 ex63
            refine lv_iinc hx hb d_Sp_forward_97 hl (k := 6) rfl (v := x63) (by rw [ki_1, ex63]) (by decide) (lv' := [(4, .int x63), (3, .int x62), (2, .int x55), (6, .int x62), (5, .int x55), (0, .ref (Bm + v0)), (1, .int x1)]) rfl (fun ls hl => ?_)
            refine lv_goto hx hb d_Sp_forward_100 (tgt := 26) rfl ?_
            exact hK26 v0 x1 x55 x62 x63 σ61 _ _ _ h_v0 hH hT hS (lv_sub hl [5, 6, 2, 1, 0] rfl) hF
abbrev y_Sp_forward : MethodName := ({ cls := "RouteSpeaker", name := "forward", desc := "(I)I" } : Jvm.MethodName)
theorem rc_Sp_forward : rs_Cal y_Sp_forward prog_1_method_17_code 7 (some .int) 1 := ⟨tw_891, tw_1, by decide, by decide, by decide +kernel⟩
set_option maxRecDepth 20000 in
theorem J_Sp_forward (l : Launch) (hfl : l.flags = flags0) {G : rs_G} {Bm : Nat} {S : rs_Shp} {v0 : Nat} {x1 : Int32} {σ : rs_Mem} {Q : Int32 → rs_Mem → Prop} {QT : Nat → rs_Mem → Prop} (h_v0 : rs_Ok S 1 v0) (hF : F_Sp_forward S.2.2 v0 x1 σ Q QT) :
    rs_MetT l y_Sp_forward prog_1_method_17_code 7 (some .int) { frames := 6, cells := 1, slots := 6, locals := 110 } G Bm S σ [.ref (Bm + v0), .int x1] (rs_Qi G Bm S Q) QT := by
  refine rs_metT (own := "RouteSpeaker") hfl (by decide) rfl (Nat.le_of_ble_eq_true rfl) (fun p e s m below meth c ls C hXC hl hH hT hS => ?_)
  replace hl : lv_has ls 7 [(0, .ref (Bm + v0)), (1, .int x1)] := hl
  have hx := C.1
  have hb := C.2.1
  unfold F_Sp_forward at hF
  refine lv_iload_n hx hb d_Sp_forward_0 rfl (lv_at hl 1 rfl) ?_
  refine lv_if_lt hx hb d_Sp_forward_1 (tgt := 11) rfl (fun hc => ?_) (fun hc => ?_)
  · replace hF := hF.1 hc
    exact rs_throw C hXC hH hT hS th_61_63_1 ⟨⟨by decide, by decide⟩, by decide, Nat.le_of_ble_eq_true rfl⟩ hl.1 d_Sp_forward_11 d_Sp_forward_14 d_Sp_forward_15 d_Sp_forward_18 hF
  · replace hF := hF.2 hc
    refine lv_iload_n hx hb d_Sp_forward_4 rfl (lv_at hl 1 rfl) ?_
    refine lv_sipush hx hb d_Sp_forward_5 ks_255 ?_
    refine lv_icmp_le hx hb d_Sp_forward_8 (tgt := 19) rfl (fun hc => ?_) (fun hc => ?_)
    · replace hF := hF.1 hc
      refine lv_iconst hx hb d_Sp_forward_19 ki_m1 ?_
      refine lv_istore_n hx hb d_Sp_forward_20 rfl hl (by decide) (lv' := [(2, .int (-1 : Int32)), (0, .ref (Bm + v0)), (1, .int x1)]) rfl (fun ls hl => ?_)
      refine lv_iconst hx hb d_Sp_forward_21 ki_m1 ?_
      refine lv_istore_n hx hb d_Sp_forward_22 rfl hl (by decide) (lv' := [(3, .int (-1 : Int32)), (2, .int (-1 : Int32)), (0, .ref (Bm + v0)), (1, .int x1)]) rfl (fun ls hl => ?_)
      refine lv_iconst hx hb d_Sp_forward_23 ki_0 ?_
      refine lv_istore hx hb d_Sp_forward_24 hl (by decide) (lv' := [(4, .int (0 : Int32)), (3, .int (-1 : Int32)), (2, .int (-1 : Int32)), (0, .ref (Bm + v0)), (1, .int x1)]) rfl (fun ls hl => ?_)
      obtain ⟨n, hF⟩ := hF
      exact JL_Sp_forward_26 C hXC n v0 x1 (-1 : Int32) (-1 : Int32) (0 : Int32) σ _ _ _ h_v0 hH hT hS (lv_sub hl [3, 4, 2, 1, 0] rfl) hF
    · replace hF := hF.2 hc
      exact rs_throw C hXC hH hT hS th_61_63_1 ⟨⟨by decide, by decide⟩, by decide, Nat.le_of_ble_eq_true rfl⟩ hl.1 d_Sp_forward_11 d_Sp_forward_14 d_Sp_forward_15 d_Sp_forward_18 hF
