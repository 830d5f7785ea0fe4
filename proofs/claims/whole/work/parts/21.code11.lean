/-! RouteSpeakerModel.badRoute(I)I -/
theorem d_Mo_badRoute_0 : decode prog_12_method_37_code 0 = .ok (.aload_n 0, 1) := by decide +kernel
theorem d_Mo_badRoute_1 : decode prog_12_method_37_code 1 = .ok (.getfield 120, 3) := by decide +kernel
theorem d_Mo_badRoute_4 : decode prog_12_method_37_code 4 = .ok (.iconst 1, 1) := by decide +kernel
theorem d_Mo_badRoute_5 : decode prog_12_method_37_code 5 = .ok (.iaload, 1) := by decide +kernel
theorem d_Mo_badRoute_6 : decode prog_12_method_37_code 6 = .ok (.ifCond .lt (38), 3) := by decide +kernel
theorem d_Mo_badRoute_9 : decode prog_12_method_37_code 9 = .ok (.aload_n 0, 1) := by decide +kernel
theorem d_Mo_badRoute_10 : decode prog_12_method_37_code 10 = .ok (.getfield 120, 3) := by decide +kernel
theorem d_Mo_badRoute_13 : decode prog_12_method_37_code 13 = .ok (.iconst 2, 1) := by decide +kernel
theorem d_Mo_badRoute_14 : decode prog_12_method_37_code 14 = .ok (.iaload, 1) := by decide +kernel
theorem d_Mo_badRoute_15 : decode prog_12_method_37_code 15 = .ok (.ifCond .lt (29), 3) := by decide +kernel
theorem d_Mo_badRoute_18 : decode prog_12_method_37_code 18 = .ok (.aload_n 0, 1) := by decide +kernel
theorem d_Mo_badRoute_19 : decode prog_12_method_37_code 19 = .ok (.getfield 120, 3) := by decide +kernel
theorem d_Mo_badRoute_22 : decode prog_12_method_37_code 22 = .ok (.iconst 3, 1) := by decide +kernel
theorem d_Mo_badRoute_23 : decode prog_12_method_37_code 23 = .ok (.iaload, 1) := by decide +kernel
theorem d_Mo_badRoute_24 : decode prog_12_method_37_code 24 = .ok (.ifCond .lt (20), 3) := by decide +kernel
theorem d_Mo_badRoute_27 : decode prog_12_method_37_code 27 = .ok (.aload_n 0, 1) := by decide +kernel
theorem d_Mo_badRoute_28 : decode prog_12_method_37_code 28 = .ok (.iload_n 1, 1) := by decide +kernel
theorem d_Mo_badRoute_29 : decode prog_12_method_37_code 29 = .ok (.invokevirtual 225, 3) := by decide +kernel
theorem d_Mo_badRoute_32 : decode prog_12_method_37_code 32 = .ok (.ifCond .eq (14), 3) := by decide +kernel
theorem d_Mo_badRoute_35 : decode prog_12_method_37_code 35 = .ok (.aload_n 0, 1) := by decide +kernel
theorem d_Mo_badRoute_36 : decode prog_12_method_37_code 36 = .ok (.getfield 120, 3) := by decide +kernel
theorem d_Mo_badRoute_39 : decode prog_12_method_37_code 39 = .ok (.iconst 5, 1) := by decide +kernel
theorem d_Mo_badRoute_40 : decode prog_12_method_37_code 40 = .ok (.iaload, 1) := by decide +kernel
theorem d_Mo_badRoute_41 : decode prog_12_method_37_code 41 = .ok (.ifCond .ge (5), 3) := by decide +kernel
theorem d_Mo_badRoute_44 : decode prog_12_method_37_code 44 = .ok (.iconst 3, 1) := by decide +kernel
theorem d_Mo_badRoute_45 : decode prog_12_method_37_code 45 = .ok (.ireturn, 1) := by decide +kernel
theorem d_Mo_badRoute_46 : decode prog_12_method_37_code 46 = .ok (.aload_n 0, 1) := by decide +kernel
theorem d_Mo_badRoute_47 : decode prog_12_method_37_code 47 = .ok (.getfield 52, 3) := by decide +kernel
theorem d_Mo_badRoute_50 : decode prog_12_method_37_code 50 = .ok (.aload_n 0, 1) := by decide +kernel
theorem d_Mo_badRoute_51 : decode prog_12_method_37_code 51 = .ok (.getfield 120, 3) := by decide +kernel
theorem d_Mo_badRoute_54 : decode prog_12_method_37_code 54 = .ok (.iconst 2, 1) := by decide +kernel
theorem d_Mo_badRoute_55 : decode prog_12_method_37_code 55 = .ok (.iaload, 1) := by decide +kernel
theorem d_Mo_badRoute_56 : decode prog_12_method_37_code 56 = .ok (.iaload, 1) := by decide +kernel
theorem d_Mo_badRoute_57 : decode prog_12_method_37_code 57 = .ok (.ifCond .le (29), 3) := by decide +kernel
theorem d_Mo_badRoute_60 : decode prog_12_method_37_code 60 = .ok (.aload_n 0, 1) := by decide +kernel
theorem d_Mo_badRoute_61 : decode prog_12_method_37_code 61 = .ok (.getfield 52, 3) := by decide +kernel
theorem d_Mo_badRoute_64 : decode prog_12_method_37_code 64 = .ok (.aload_n 0, 1) := by decide +kernel
theorem d_Mo_badRoute_65 : decode prog_12_method_37_code 65 = .ok (.getfield 120, 3) := by decide +kernel
theorem d_Mo_badRoute_68 : decode prog_12_method_37_code 68 = .ok (.iconst 2, 1) := by decide +kernel
theorem d_Mo_badRoute_69 : decode prog_12_method_37_code 69 = .ok (.iaload, 1) := by decide +kernel
theorem d_Mo_badRoute_70 : decode prog_12_method_37_code 70 = .ok (.iconst 1, 1) := by decide +kernel
theorem d_Mo_badRoute_71 : decode prog_12_method_37_code 71 = .ok (.iadd, 1) := by decide +kernel
theorem d_Mo_badRoute_72 : decode prog_12_method_37_code 72 = .ok (.iaload, 1) := by decide +kernel
theorem d_Mo_badRoute_73 : decode prog_12_method_37_code 73 = .ok (.aload_n 0, 1) := by decide +kernel
theorem d_Mo_badRoute_74 : decode prog_12_method_37_code 74 = .ok (.getfield 13, 3) := by decide +kernel
theorem d_Mo_badRoute_77 : decode prog_12_method_37_code 77 = .ok (.iload_n 1, 1) := by decide +kernel
theorem d_Mo_badRoute_78 : decode prog_12_method_37_code 78 = .ok (.iaload, 1) := by decide +kernel
theorem d_Mo_badRoute_79 : decode prog_12_method_37_code 79 = .ok (.if_icmp .ne (7), 3) := by decide +kernel
theorem d_Mo_badRoute_82 : decode prog_12_method_37_code 82 = .ok (.iconst 1, 1) := by decide +kernel
theorem d_Mo_badRoute_83 : decode prog_12_method_37_code 83 = .ok (.goto (4), 3) := by decide +kernel
theorem d_Mo_badRoute_86 : decode prog_12_method_37_code 86 = .ok (.iconst 0, 1) := by decide +kernel
theorem d_Mo_badRoute_87 : decode prog_12_method_37_code 87 = .ok (.istore_n 2, 1) := by decide +kernel
theorem d_Mo_badRoute_88 : decode prog_12_method_37_code 88 = .ok (.aload_n 0, 1) := by decide +kernel
theorem d_Mo_badRoute_89 : decode prog_12_method_37_code 89 = .ok (.iload_n 1, 1) := by decide +kernel
theorem d_Mo_badRoute_90 : decode prog_12_method_37_code 90 = .ok (.invokevirtual 225, 3) := by decide +kernel
theorem d_Mo_badRoute_93 : decode prog_12_method_37_code 93 = .ok (.ifCond .ne (7), 3) := by decide +kernel
theorem d_Mo_badRoute_96 : decode prog_12_method_37_code 96 = .ok (.iload_n 2, 1) := by decide +kernel
theorem d_Mo_badRoute_97 : decode prog_12_method_37_code 97 = .ok (.ifCond .eq (7), 3) := by decide +kernel
theorem d_Mo_badRoute_100 : decode prog_12_method_37_code 100 = .ok (.iconst 0, 1) := by decide +kernel
theorem d_Mo_badRoute_101 : decode prog_12_method_37_code 101 = .ok (.goto (5), 3) := by decide +kernel
theorem d_Mo_badRoute_104 : decode prog_12_method_37_code 104 = .ok (.bipush (11), 2) := by decide +kernel
theorem d_Mo_badRoute_106 : decode prog_12_method_37_code 106 = .ok (.ireturn, 1) := by decide +kernel
def B_Mo_badRoute_87 (N : Nat → Nat) (Q : Int32 → rs_Mem → Prop) (v0 : Nat) (x1 : Int32) (y0 : Int32) (σ : rs_Mem) : Prop :=
  (F_Mo_isInternal N v0 x1 σ (fun x52 σ51 => ((¬ (x52 = 0) → (Q (0 : Int32) σ51)) ∧ (x52 = 0 → ((y0 = 0 → (Q (11 : Int32) σ51)) ∧ (¬ (y0 = 0) → (Q (0 : Int32) σ51)))))))
def B_Mo_badRoute_86 (N : Nat → Nat) (Q : Int32 → rs_Mem → Prop) (v0 : Nat) (x1 : Int32) (σ : rs_Mem) : Prop :=
  (B_Mo_badRoute_87 N Q v0 x1 (0 : Int32) σ)
def B_Mo_badRoute_46 (N : Nat → Nat) (Q : Int32 → rs_Mem → Prop) (v0 : Nat) (x1 : Int32) (σ : rs_Mem) : Prop :=
  (vp_in (2 : Int32) (N (rs_R σ v0 39)) ∧ (vp_in (rs_I σ (rs_R σ v0 39) (2 : Int32).toNatClampNeg) (N (rs_R σ v0 15)) ∧ (((rs_I σ (rs_R σ v0 15) (rs_I σ (rs_R σ v0 39) (2 : Int32).toNatClampNeg).toNatClampNeg) ≤ 0 → (B_Mo_badRoute_86 N Q v0 x1 σ)) ∧ (¬ ((rs_I σ (rs_R σ v0 15) (rs_I σ (rs_R σ v0 39) (2 : Int32).toNatClampNeg).toNatClampNeg) ≤ 0) → (vp_in (2 : Int32) (N (rs_R σ v0 39)) ∧ (vp_in ((rs_I σ (rs_R σ v0 39) (2 : Int32).toNatClampNeg) + (1 : Int32)) (N (rs_R σ v0 15)) ∧ (vp_in x1 (N (rs_R σ v0 2)) ∧ ((¬ ((rs_I σ (rs_R σ v0 15) ((rs_I σ (rs_R σ v0 39) (2 : Int32).toNatClampNeg) + (1 : Int32)).toNatClampNeg) = (rs_I σ (rs_R σ v0 2) x1.toNatClampNeg)) → (B_Mo_badRoute_86 N Q v0 x1 σ)) ∧ ((rs_I σ (rs_R σ v0 15) ((rs_I σ (rs_R σ v0 39) (2 : Int32).toNatClampNeg) + (1 : Int32)).toNatClampNeg) = (rs_I σ (rs_R σ v0 2) x1.toNatClampNeg) → (B_Mo_badRoute_87 N Q v0 x1 (1 : Int32) σ))))))))))
def F_Mo_badRoute (N : Nat → Nat) (v0 : Nat) (x1 : Int32) (σ : rs_Mem) (Q : Int32 → rs_Mem → Prop) : Prop :=
  (vp_in (1 : Int32) (N (rs_R σ v0 39)) ∧ (((rs_I σ (rs_R σ v0 39) (1 : Int32).toNatClampNeg) < 0 → (Q (3 : Int32) σ)) ∧ (¬ ((rs_I σ (rs_R σ v0 39) (1 : Int32).toNatClampNeg) < 0) → (vp_in (2 : Int32) (N (rs_R σ v0 39)) ∧ (((rs_I σ (rs_R σ v0 39) (2 : Int32).toNatClampNeg) < 0 → (Q (3 : Int32) σ)) ∧ (¬ ((rs_I σ (rs_R σ v0 39) (2 : Int32).toNatClampNeg) < 0) → (vp_in (3 : Int32) (N (rs_R σ v0 39)) ∧ (((rs_I σ (rs_R σ v0 39) (3 : Int32).toNatClampNeg) < 0 → (Q (3 : Int32) σ)) ∧ (¬ ((rs_I σ (rs_R σ v0 39) (3 : Int32).toNatClampNeg) < 0) → (F_Mo_isInternal N v0 x1 σ (fun x58 σ57 => ((x58 = 0 → (B_Mo_badRoute_46 N Q v0 x1 σ57)) ∧ (¬ (x58 = 0) → (vp_in (5 : Int32) (N (rs_R σ57 v0 39)) ∧ ((0 ≤ (rs_I σ57 (rs_R σ57 v0 39) (5 : Int32).toNatClampNeg) → (B_Mo_badRoute_46 N Q v0 x1 σ57)) ∧ (¬ (0 ≤ (rs_I σ57 (rs_R σ57 v0 39) (5 : Int32).toNatClampNeg)) → (Q (3 : Int32) σ57)))))))))))))))))
set_option maxRecDepth 20000 in
theorem JB_Mo_badRoute_87 {p : Program} {l : Launch} {e : Env} {s : State} {m : MethodId} {args : Array Value} {below : List Frame} {meth : Method} {c : Code} {G : rs_G} {Bm : Nat} {S : rs_Shp} {Q : Int32 → rs_Mem → Prop} (C : rs_C "RouteSpeakerModel" prog_12_method_37_code 3 (some .int) G p s m meth c args) (v0 : Nat) (x1 : Int32) (y0 : Int32) (σ : rs_Mem) (H : Heap) (locs : List Loc) (ls : Array Slot) (h_v0 : rs_Ok S 11 v0) (hH : rs_H G Bm S σ H) (hT : rs_T S σ) (hS : va_S (rs_A Bm) s.heap H locs) (hl : lv_has ls 3 [(0, .ref (Bm + v0)), (1, .int x1)]) (hF : B_Mo_badRoute_87 S.2.2 Q v0 x1 y0 σ) :
    W p l e { frames := 1, cells := 0, slots := 0, locals := 21 } s m args below meth c H locs 0 0 (MQ below (rs_Qi G Bm S Q) args s 0 0 (rs_A Bm)) (F0 m 87 ls [.int y0]) := by
  have hx := C.1
  have hb := C.2.1
  unfold B_Mo_badRoute_87 at hF
  refine lv_istore_n hx hb d_Mo_badRoute_87 rfl hl (by decide) (lv' := [(2, .int y0), (0, .ref (Bm + v0)), (1, .int x1)]) rfl (fun ls hl => ?_)
  refine lv_aload_n hx hb d_Mo_badRoute_88 rfl (lv_at hl 1 rfl) ?_
  refine lv_iload_n hx hb d_Mo_badRoute_89 rfl (lv_at hl 2 rfl) ?_
  refine rs_ci (rs_runV C hH hT hl (J_Mo_isInternal l h_v0 hF) rc_Mo_isInternal tw_1092 tw_1094 ts_46 h_v0 ⟨rfl, by decide, by decide⟩ rfl ⟨⟨rfl, rfl⟩, by decide, by decide, by decide⟩ (Nat.le_of_ble_eq_true rfl) rfl d_Mo_badRoute_90) hS (fun x52 σ51 H locs hH hT hS hF => ?_)
  refine lv_if_ne hx hb d_Mo_badRoute_93 (tgt := 100) rfl (fun hc => ?_) (fun hc => ?_)
  · replace hF := hF.1 hc
    refine lv_iconst hx hb d_Mo_badRoute_100 ki_0 ?_
    refine lv_goto hx hb d_Mo_badRoute_101 (tgt := 106) rfl ?_
    exact rs_iret C hH hT hS hF d_Mo_badRoute_106
  · replace hF := hF.2 hc
    refine lv_iload_n hx hb d_Mo_badRoute_96 rfl (lv_at hl 0 rfl) ?_
    refine lv_if_eq hx hb d_Mo_badRoute_97 (tgt := 104) rfl (fun hc => ?_) (fun hc => ?_)
    · replace hF := hF.1 hc
      refine lv_bipush hx hb d_Mo_badRoute_104 kb_11 ?_
      exact rs_iret C hH hT hS hF d_Mo_badRoute_106
    · replace hF := hF.2 hc
      refine lv_iconst hx hb d_Mo_badRoute_100 ki_0 ?_
      refine lv_goto hx hb d_Mo_badRoute_101 (tgt := 106) rfl ?_
      exact rs_iret C hH hT hS hF d_Mo_badRoute_106
set_option maxRecDepth 20000 in
theorem JB_Mo_badRoute_86 {p : Program} {l : Launch} {e : Env} {s : State} {m : MethodId} {args : Array Value} {below : List Frame} {meth : Method} {c : Code} {G : rs_G} {Bm : Nat} {S : rs_Shp} {Q : Int32 → rs_Mem → Prop} (C : rs_C "RouteSpeakerModel" prog_12_method_37_code 3 (some .int) G p s m meth c args) (v0 : Nat) (x1 : Int32) (σ : rs_Mem) (H : Heap) (locs : List Loc) (ls : Array Slot) (h_v0 : rs_Ok S 11 v0) (hH : rs_H G Bm S σ H) (hT : rs_T S σ) (hS : va_S (rs_A Bm) s.heap H locs) (hl : lv_has ls 3 [(0, .ref (Bm + v0)), (1, .int x1)]) (hF : B_Mo_badRoute_86 S.2.2 Q v0 x1 σ) :
    W p l e { frames := 1, cells := 0, slots := 0, locals := 21 } s m args below meth c H locs 0 0 (MQ below (rs_Qi G Bm S Q) args s 0 0 (rs_A Bm)) (F0 m 86 ls []) := by
  have hx := C.1
  have hb := C.2.1
  unfold B_Mo_badRoute_86 at hF
  refine lv_iconst hx hb d_Mo_badRoute_86 ki_0 ?_
  exact JB_Mo_badRoute_87 C v0 x1 (0 : Int32) σ _ _ _ h_v0 hH hT hS (lv_sub hl [0, 1] rfl) hF
set_option maxRecDepth 20000 in
theorem JB_Mo_badRoute_46 {p : Program} {l : Launch} {e : Env} {s : State} {m : MethodId} {args : Array Value} {below : List Frame} {meth : Method} {c : Code} {G : rs_G} {Bm : Nat} {S : rs_Shp} {Q : Int32 → rs_Mem → Prop} (C : rs_C "RouteSpeakerModel" prog_12_method_37_code 3 (some .int) G p s m meth c args) (v0 : Nat) (x1 : Int32) (σ : rs_Mem) (H : Heap) (locs : List Loc) (ls : Array Slot) (h_v0 : rs_Ok S 11 v0) (hH : rs_H G Bm S σ H) (hT : rs_T S σ) (hS : va_S (rs_A Bm) s.heap H locs) (hl : lv_has ls 3 [(0, .ref (Bm + v0)), (1, .int x1)]) (hF : B_Mo_badRoute_46 S.2.2 Q v0 x1 σ) :
    W p l e { frames := 1, cells := 0, slots := 0, locals := 21 } s m args below meth c H locs 0 0 (MQ below (rs_Qi G Bm S Q) args s 0 0 (rs_A Bm)) (F0 m 46 ls []) := by
  have hx := C.1
  have hb := C.2.1
  unfold B_Mo_badRoute_46 at hF
  refine lv_aload_n hx hb d_Mo_badRoute_46 rfl (lv_at hl 0 rfl) ?_
  refine rs_getR C hH hT h_v0 fk_11_15 tw_914 d_Mo_badRoute_47 (fun h51 => ?_)
  refine lv_aload_n hx hb d_Mo_badRoute_50 rfl (lv_at hl 0 rfl) ?_
  refine rs_getR C hH hT h_v0 fk_11_39 tw_938 d_Mo_badRoute_51 (fun h52 => ?_)
  refine lv_iconst hx hb d_Mo_badRoute_54 ki_2 ?_
  obtain ⟨g53, hF⟩ := hF
  refine rs_iald C hH h52 g53 d_Mo_badRoute_55 ?_
  obtain ⟨g54, hF⟩ := hF
  refine rs_iald C hH h51 g54 d_Mo_badRoute_56 ?_
  refine lv_if_le hx hb d_Mo_badRoute_57 (tgt := 86) rfl (fun hc => ?_) (fun hc => ?_)
  · replace hF := hF.1 hc
    exact JB_Mo_badRoute_86 C v0 x1 σ _ _ _ h_v0 hH hT hS (lv_sub hl [0, 1] rfl) hF
  · replace hF := hF.2 hc
    refine lv_aload_n hx hb d_Mo_badRoute_60 rfl (lv_at hl 0 rfl) ?_
    refine rs_getR C hH hT h_v0 fk_11_15 tw_914 d_Mo_badRoute_61 (fun h55 => ?_)
    refine lv_aload_n hx hb d_Mo_badRoute_64 rfl (lv_at hl 0 rfl) ?_
    refine rs_getR C hH hT h_v0 fk_11_39 tw_938 d_Mo_badRoute_65 (fun h56 => ?_)
    refine lv_iconst hx hb d_Mo_badRoute_68 ki_2 ?_
    obtain ⟨g57, hF⟩ := hF
    refine rs_iald C hH h56 g57 d_Mo_badRoute_69 ?_
    refine lv_iconst hx hb d_Mo_badRoute_70 ki_1 ?_
    refine lv_iadd hx hb d_Mo_badRoute_71 ?_
    obtain ⟨g58, hF⟩ := hF
    refine rs_iald C hH h55 g58 d_Mo_badRoute_72 ?_
    refine lv_aload_n hx hb d_Mo_badRoute_73 rfl (lv_at hl 0 rfl) ?_
    refine rs_getR C hH hT h_v0 fk_11_2 tw_901 d_Mo_badRoute_74 (fun h59 => ?_)
    refine lv_iload_n hx hb d_Mo_badRoute_77 rfl (lv_at hl 1 rfl) ?_
    obtain ⟨g60, hF⟩ := hF
    refine rs_iald C hH h59 g60 d_Mo_badRoute_78 ?_
    refine lv_icmp_ne hx hb d_Mo_badRoute_79 (tgt := 86) rfl (fun hc => ?_) (fun hc => ?_)
    · replace hF := hF.1 hc
      exact JB_Mo_badRoute_86 C v0 x1 σ _ _ _ h_v0 hH hT hS (lv_sub hl [0, 1] rfl) hF
    · replace hF := hF.2 hc
      refine lv_iconst hx hb d_Mo_badRoute_82 ki_1 ?_
      refine lv_goto hx hb d_Mo_badRoute_83 (tgt := 87) rfl ?_
      exact JB_Mo_badRoute_87 C v0 x1 (1 : Int32) σ _ _ _ h_v0 hH hT hS (lv_sub hl [0, 1] rfl) hF
abbrev y_Mo_badRoute : MethodName := ({ cls := "RouteSpeakerModel", name := "badRoute", desc := "(I)I" } : Jvm.MethodName)
theorem rc_Mo_badRoute : rs_Cal y_Mo_badRoute prog_12_method_37_code 3 (some .int) 1 := ⟨tw_1218, tw_11, by decide, by decide, by decide +kernel⟩
set_option maxRecDepth 20000 in
theorem J_Mo_badRoute (l : Launch) {G : rs_G} {Bm : Nat} {S : rs_Shp} {v0 : Nat} {x1 : Int32} {σ : rs_Mem} {Q : Int32 → rs_Mem → Prop} (h_v0 : rs_Ok S 11 v0) (hF : F_Mo_badRoute S.2.2 v0 x1 σ Q) :
    Met l y_Mo_badRoute (rs_ws y_Mo_badRoute prog_12_method_37_code 3 (some .int)) { frames := 1, cells := 0, slots := 0, locals := 21 } (rs_P G Bm S σ [.ref (Bm + v0), .int x1]) (rs_Qi G Bm S Q) 0 0 (rs_A Bm) := by
  refine rs_met (own := "RouteSpeakerModel") (by decide) rfl (Nat.le_of_ble_eq_true rfl) (fun p e s m below meth c ls C hl hH hT hS => ?_)
  replace hl : lv_has ls 3 [(0, .ref (Bm + v0)), (1, .int x1)] := hl
  have hx := C.1
  have hb := C.2.1
  unfold F_Mo_badRoute at hF
  refine lv_aload_n hx hb d_Mo_badRoute_0 rfl (lv_at hl 0 rfl) ?_
  refine rs_getR C hH hT h_v0 fk_11_39 tw_938 d_Mo_badRoute_1 (fun h51 => ?_)
  refine lv_iconst hx hb d_Mo_badRoute_4 ki_1 ?_
  obtain ⟨g52, hF⟩ := hF
  refine rs_iald C hH h51 g52 d_Mo_badRoute_5 ?_
  refine lv_if_lt hx hb d_Mo_badRoute_6 (tgt := 44) rfl (fun hc => ?_) (fun hc => ?_)
  · replace hF := hF.1 hc
    refine lv_iconst hx hb d_Mo_badRoute_44 ki_3 ?_
    exact rs_iret C hH hT hS hF d_Mo_badRoute_45
  · replace hF := hF.2 hc
    refine lv_aload_n hx hb d_Mo_badRoute_9 rfl (lv_at hl 0 rfl) ?_
    refine rs_getR C hH hT h_v0 fk_11_39 tw_938 d_Mo_badRoute_10 (fun h53 => ?_)
    refine lv_iconst hx hb d_Mo_badRoute_13 ki_2 ?_
    obtain ⟨g54, hF⟩ := hF
    refine rs_iald C hH h53 g54 d_Mo_badRoute_14 ?_
    refine lv_if_lt hx hb d_Mo_badRoute_15 (tgt := 44) rfl (fun hc => ?_) (fun hc => ?_)
    · replace hF := hF.1 hc
      refine lv_iconst hx hb d_Mo_badRoute_44 ki_3 ?_
      exact rs_iret C hH hT hS hF d_Mo_badRoute_45
    · replace hF := hF.2 hc
      refine lv_aload_n hx hb d_Mo_badRoute_18 rfl (lv_at hl 0 rfl) ?_
      refine rs_getR C hH hT h_v0 fk_11_39 tw_938 d_Mo_badRoute_19 (fun h55 => ?_)
      refine lv_iconst hx hb d_Mo_badRoute_22 ki_3 ?_
      obtain ⟨g56, hF⟩ := hF
      refine rs_iald C hH h55 g56 d_Mo_badRoute_23 ?_
      refine lv_if_lt hx hb d_Mo_badRoute_24 (tgt := 44) rfl (fun hc => ?_) (fun hc => ?_)
      · replace hF := hF.1 hc
        refine lv_iconst hx hb d_Mo_badRoute_44 ki_3 ?_
        exact rs_iret C hH hT hS hF d_Mo_badRoute_45
      · replace hF := hF.2 hc
        refine lv_aload_n hx hb d_Mo_badRoute_27 rfl (lv_at hl 0 rfl) ?_
        refine lv_iload_n hx hb d_Mo_badRoute_28 rfl (lv_at hl 1 rfl) ?_
        refine rs_ci (rs_runV C hH hT hl (J_Mo_isInternal l h_v0 hF) rc_Mo_isInternal tw_1092 tw_1094 ts_46 h_v0 ⟨rfl, by decide, by decide⟩ rfl ⟨⟨rfl, rfl⟩, by decide, by decide, by decide⟩ (Nat.le_of_ble_eq_true rfl) rfl d_Mo_badRoute_29) hS (fun x58 σ57 H locs hH hT hS hF => ?_)
        refine lv_if_eq hx hb d_Mo_badRoute_32 (tgt := 46) rfl (fun hc => ?_) (fun hc => ?_)
        · replace hF := hF.1 hc
          exact JB_Mo_badRoute_46 C v0 x1 σ57 _ _ _ h_v0 hH hT hS (lv_sub hl [0, 1] rfl) hF
        · replace hF := hF.2 hc
          refine lv_aload_n hx hb d_Mo_badRoute_35 rfl (lv_at hl 0 rfl) ?_
          refine rs_getR C hH hT h_v0 fk_11_39 tw_938 d_Mo_badRoute_36 (fun h59 => ?_)
          refine lv_iconst hx hb d_Mo_badRoute_39 ki_5 ?_
          obtain ⟨g60, hF⟩ := hF
          refine rs_iald C hH h59 g60 d_Mo_badRoute_40 ?_
          refine lv_if_ge hx hb d_Mo_badRoute_41 (tgt := 46) rfl (fun hc => ?_) (fun hc => ?_)
          · replace hF := hF.1 hc
            exact JB_Mo_badRoute_46 C v0 x1 σ57 _ _ _ h_v0 hH hT hS (lv_sub hl [0, 1] rfl) hF
          · replace hF := hF.2 hc
            refine lv_iconst hx hb d_Mo_badRoute_44 ki_3 ?_
            exact rs_iret C hH hT hS hF d_Mo_badRoute_45
/-! RouteSpeakerModel.fresh(II)I -/
theorem d_Mo_fresh_0 : decode prog_12_method_33_code 0 = .ok (.iconst 0, 1) := by decide +kernel
theorem d_Mo_fresh_1 : decode prog_12_method_33_code 1 = .ok (.istore_n 3, 1) := by decide +kernel
theorem d_Mo_fresh_2 : decode prog_12_method_33_code 2 = .ok (.iload_n 1, 1) := by decide +kernel
theorem d_Mo_fresh_3 : decode prog_12_method_33_code 3 = .ok (.istore 4, 2) := by decide +kernel
theorem d_Mo_fresh_5 : decode prog_12_method_33_code 5 = .ok (.iload 4, 2) := by decide +kernel
theorem d_Mo_fresh_7 : decode prog_12_method_33_code 7 = .ok (.iload_n 2, 1) := by decide +kernel
theorem d_Mo_fresh_8 : decode prog_12_method_33_code 8 = .ok (.if_icmp .ge (118), 3) := by decide +kernel
theorem d_Mo_fresh_11 : decode prog_12_method_33_code 11 = .ok (.aload_n 0, 1) := by decide +kernel
theorem d_Mo_fresh_12 : decode prog_12_method_33_code 12 = .ok (.aload_n 0, 1) := by decide +kernel
theorem d_Mo_fresh_13 : decode prog_12_method_33_code 13 = .ok (.getfield 52, 3) := by decide +kernel
theorem d_Mo_fresh_16 : decode prog_12_method_33_code 16 = .ok (.iload 4, 2) := by decide +kernel
theorem d_Mo_fresh_18 : decode prog_12_method_33_code 18 = .ok (.iaload, 1) := by decide +kernel
theorem d_Mo_fresh_19 : decode prog_12_method_33_code 19 = .ok (.aload_n 0, 1) := by decide +kernel
theorem d_Mo_fresh_20 : decode prog_12_method_33_code 20 = .ok (.getfield 52, 3) := by decide +kernel
theorem d_Mo_fresh_23 : decode prog_12_method_33_code 23 = .ok (.iload 4, 2) := by decide +kernel
theorem d_Mo_fresh_25 : decode prog_12_method_33_code 25 = .ok (.iconst 1, 1) := by decide +kernel
theorem d_Mo_fresh_26 : decode prog_12_method_33_code 26 = .ok (.iadd, 1) := by decide +kernel
theorem d_Mo_fresh_27 : decode prog_12_method_33_code 27 = .ok (.iaload, 1) := by decide +kernel
theorem d_Mo_fresh_28 : decode prog_12_method_33_code 28 = .ok (.invokevirtual 137, 3) := by decide +kernel
theorem d_Mo_fresh_31 : decode prog_12_method_33_code 31 = .ok (.ifCond .ge (7), 3) := by decide +kernel
theorem d_Mo_fresh_34 : decode prog_12_method_33_code 34 = .ok (.iconst 1, 1) := by decide +kernel
theorem d_Mo_fresh_35 : decode prog_12_method_33_code 35 = .ok (.goto (4), 3) := by decide +kernel
theorem d_Mo_fresh_38 : decode prog_12_method_33_code 38 = .ok (.iconst 0, 1) := by decide +kernel
theorem d_Mo_fresh_39 : decode prog_12_method_33_code 39 = .ok (.istore 5, 2) := by decide +kernel
theorem d_Mo_fresh_41 : decode prog_12_method_33_code 41 = .ok (.iload_n 1, 1) := by decide +kernel
theorem d_Mo_fresh_42 : decode prog_12_method_33_code 42 = .ok (.istore 6, 2) := by decide +kernel
theorem d_Mo_fresh_44 : decode prog_12_method_33_code 44 = .ok (.iload 6, 2) := by decide +kernel
theorem d_Mo_fresh_46 : decode prog_12_method_33_code 46 = .ok (.iload 4, 2) := by decide +kernel
theorem d_Mo_fresh_48 : decode prog_12_method_33_code 48 = .ok (.if_icmp .ge (59), 3) := by decide +kernel
theorem d_Mo_fresh_51 : decode prog_12_method_33_code 51 = .ok (.iload 5, 2) := by decide +kernel
theorem d_Mo_fresh_53 : decode prog_12_method_33_code 53 = .ok (.ifCond .eq (45), 3) := by decide +kernel
theorem d_Mo_fresh_56 : decode prog_12_method_33_code 56 = .ok (.aload_n 0, 1) := by decide +kernel
theorem d_Mo_fresh_57 : decode prog_12_method_33_code 57 = .ok (.getfield 52, 3) := by decide +kernel
theorem d_Mo_fresh_60 : decode prog_12_method_33_code 60 = .ok (.iload 6, 2) := by decide +kernel
theorem d_Mo_fresh_62 : decode prog_12_method_33_code 62 = .ok (.iaload, 1) := by decide +kernel
theorem d_Mo_fresh_63 : decode prog_12_method_33_code 63 = .ok (.aload_n 0, 1) := by decide +kernel
theorem d_Mo_fresh_64 : decode prog_12_method_33_code 64 = .ok (.getfield 52, 3) := by decide +kernel
theorem d_Mo_fresh_67 : decode prog_12_method_33_code 67 = .ok (.iload 4, 2) := by decide +kernel
theorem d_Mo_fresh_69 : decode prog_12_method_33_code 69 = .ok (.iaload, 1) := by decide +kernel
theorem d_Mo_fresh_70 : decode prog_12_method_33_code 70 = .ok (.if_icmp .ne (24), 3) := by decide +kernel
theorem d_Mo_fresh_73 : decode prog_12_method_33_code 73 = .ok (.aload_n 0, 1) := by decide +kernel
theorem d_Mo_fresh_74 : decode prog_12_method_33_code 74 = .ok (.getfield 52, 3) := by decide +kernel
theorem d_Mo_fresh_77 : decode prog_12_method_33_code 77 = .ok (.iload 6, 2) := by decide +kernel
theorem d_Mo_fresh_79 : decode prog_12_method_33_code 79 = .ok (.iconst 1, 1) := by decide +kernel
theorem d_Mo_fresh_80 : decode prog_12_method_33_code 80 = .ok (.iadd, 1) := by decide +kernel
theorem d_Mo_fresh_81 : decode prog_12_method_33_code 81 = .ok (.iaload, 1) := by decide +kernel
theorem d_Mo_fresh_82 : decode prog_12_method_33_code 82 = .ok (.aload_n 0, 1) := by decide +kernel
theorem d_Mo_fresh_83 : decode prog_12_method_33_code 83 = .ok (.getfield 52, 3) := by decide +kernel
theorem d_Mo_fresh_86 : decode prog_12_method_33_code 86 = .ok (.iload 4, 2) := by decide +kernel
theorem d_Mo_fresh_88 : decode prog_12_method_33_code 88 = .ok (.iconst 1, 1) := by decide +kernel
theorem d_Mo_fresh_89 : decode prog_12_method_33_code 89 = .ok (.iadd, 1) := by decide +kernel
theorem d_Mo_fresh_90 : decode prog_12_method_33_code 90 = .ok (.iaload, 1) := by decide +kernel
theorem d_Mo_fresh_91 : decode prog_12_method_33_code 91 = .ok (.if_icmp .eq (7), 3) := by decide +kernel
theorem d_Mo_fresh_94 : decode prog_12_method_33_code 94 = .ok (.iconst 1, 1) := by decide +kernel
theorem d_Mo_fresh_95 : decode prog_12_method_33_code 95 = .ok (.goto (4), 3) := by decide +kernel
theorem d_Mo_fresh_98 : decode prog_12_method_33_code 98 = .ok (.iconst 0, 1) := by decide +kernel
theorem d_Mo_fresh_99 : decode prog_12_method_33_code 99 = .ok (.istore 5, 2) := by decide +kernel
theorem d_Mo_fresh_101 : decode prog_12_method_33_code 101 = .ok (.iinc 6 (2), 3) := by decide +kernel
theorem d_Mo_fresh_104 : decode prog_12_method_33_code 104 = .ok (.goto (-60), 3) := by decide +kernel
theorem d_Mo_fresh_107 : decode prog_12_method_33_code 107 = .ok (.iload_n 3, 1) := by decide +kernel
theorem d_Mo_fresh_108 : decode prog_12_method_33_code 108 = .ok (.iload 5, 2) := by decide +kernel
theorem d_Mo_fresh_110 : decode prog_12_method_33_code 110 = .ok (.ifCond .eq (7), 3) := by decide +kernel
theorem d_Mo_fresh_113 : decode prog_12_method_33_code 113 = .ok (.iconst 1, 1) := by decide +kernel
theorem d_Mo_fresh_114 : decode prog_12_method_33_code 114 = .ok (.goto (4), 3) := by decide +kernel
theorem d_Mo_fresh_117 : decode prog_12_method_33_code 117 = .ok (.iconst 0, 1) := by decide +kernel
theorem d_Mo_fresh_118 : decode prog_12_method_33_code 118 = .ok (.iadd, 1) := by decide +kernel
theorem d_Mo_fresh_119 : decode prog_12_method_33_code 119 = .ok (.istore_n 3, 1) := by decide +kernel
theorem d_Mo_fresh_120 : decode prog_12_method_33_code 120 = .ok (.iinc 4 (2), 3) := by decide +kernel
theorem d_Mo_fresh_123 : decode prog_12_method_33_code 123 = .ok (.goto (-118), 3) := by decide +kernel
theorem d_Mo_fresh_126 : decode prog_12_method_33_code 126 = .ok (.iload_n 3, 1) := by decide +kernel
theorem d_Mo_fresh_127 : decode prog_12_method_33_code 127 = .ok (.ireturn, 1) := by decide +kernel
def B_Mo_fresh_94 (N : Nat → Nat) (K5 : Nat → Int32 → Int32 → Int32 → Int32 → rs_Mem → Prop) (K44 : Nat → Int32 → Int32 → Int32 → Int32 → Int32 → Int32 → rs_Mem → Prop) (Q : Int32 → rs_Mem → Prop) (v0 : Nat) (x1 : Int32) (x2 : Int32) (x3 : Int32) (x4 : Int32) (x6 : Int32) (σ : rs_Mem) : Prop :=
  (∀ x51 : Int32, x51 = x6 + (2 : Int32) → (K44 v0 x1 x2 x3 x4 (1 : Int32) x51 σ))
def B_Mo_fresh_98 (N : Nat → Nat) (K5 : Nat → Int32 → Int32 → Int32 → Int32 → rs_Mem → Prop) (K44 : Nat → Int32 → Int32 → Int32 → Int32 → Int32 → Int32 → rs_Mem → Prop) (Q : Int32 → rs_Mem → Prop) (v0 : Nat) (x1 : Int32) (x2 : Int32) (x3 : Int32) (x4 : Int32) (x6 : Int32) (σ : rs_Mem) : Prop :=
  (∀ x51 : Int32, x51 = x6 + (2 : Int32) → (K44 v0 x1 x2 x3 x4 (0 : Int32) x51 σ))
def B_Mo_fresh_118 (N : Nat → Nat) (K5 : Nat → Int32 → Int32 → Int32 → Int32 → rs_Mem → Prop) (Q : Int32 → rs_Mem → Prop) (v0 : Nat) (x1 : Int32) (x2 : Int32) (x4 : Int32) (y0 : Int32) (y1 : Int32) (σ : rs_Mem) : Prop :=
  (∀ x51 : Int32, x51 = (y0 + y1) → (∀ x52 : Int32, x52 = x4 + (2 : Int32) → (K5 v0 x1 x2 x51 x52 σ)))
def G_Mo_fresh_44 (N : Nat → Nat) (K5 : Nat → Int32 → Int32 → Int32 → Int32 → rs_Mem → Prop) (Q : Int32 → rs_Mem → Prop) (K44 : Nat → Int32 → Int32 → Int32 → Int32 → Int32 → Int32 → rs_Mem → Prop) (v0 : Nat) (x1 : Int32) (x2 : Int32) (x3 : Int32) (x4 : Int32) (x5 : Int32) (x6 : Int32) (σ : rs_Mem) : Prop :=
  ((x4 ≤ x6 → ((x5 = 0 → (B_Mo_fresh_118 N K5 Q v0 x1 x2 x4 x3 (0 : Int32) σ)) ∧ (¬ (x5 = 0) → (B_Mo_fresh_118 N K5 Q v0 x1 x2 x4 x3 (1 : Int32) σ)))) ∧ (¬ (x4 ≤ x6) → ((x5 = 0 → (B_Mo_fresh_98 N K5 K44 Q v0 x1 x2 x3 x4 x6 σ)) ∧ (¬ (x5 = 0) → (vp_in x6 (N (rs_R σ v0 15)) ∧ (vp_in x4 (N (rs_R σ v0 15)) ∧ ((¬ ((rs_I σ (rs_R σ v0 15) x6.toNatClampNeg) = (rs_I σ (rs_R σ v0 15) x4.toNatClampNeg)) → (B_Mo_fresh_94 N K5 K44 Q v0 x1 x2 x3 x4 x6 σ)) ∧ ((rs_I σ (rs_R σ v0 15) x6.toNatClampNeg) = (rs_I σ (rs_R σ v0 15) x4.toNatClampNeg) → (vp_in (x6 + (1 : Int32)) (N (rs_R σ v0 15)) ∧ (vp_in (x4 + (1 : Int32)) (N (rs_R σ v0 15)) ∧ (((rs_I σ (rs_R σ v0 15) (x6 + (1 : Int32)).toNatClampNeg) = (rs_I σ (rs_R σ v0 15) (x4 + (1 : Int32)).toNatClampNeg) → (B_Mo_fresh_98 N K5 K44 Q v0 x1 x2 x3 x4 x6 σ)) ∧ (¬ ((rs_I σ (rs_R σ v0 15) (x6 + (1 : Int32)).toNatClampNeg) = (rs_I σ (rs_R σ v0 15) (x4 + (1 : Int32)).toNatClampNeg)) → (B_Mo_fresh_94 N K5 K44 Q v0 x1 x2 x3 x4 x6 σ)))))))))))))
noncomputable def L_Mo_fresh_44 (N : Nat → Nat) (K5 : Nat → Int32 → Int32 → Int32 → Int32 → rs_Mem → Prop) (Q : Int32 → rs_Mem → Prop) (n : Nat) : Nat → Int32 → Int32 → Int32 → Int32 → Int32 → Int32 → rs_Mem → Prop := Nat.rec (motive := fun _ => Nat → Int32 → Int32 → Int32 → Int32 → Int32 → Int32 → rs_Mem → Prop) (fun _ _ _ _ _ _ _ _ => False) (fun _ K => G_Mo_fresh_44 N K5 Q K) n
def G_Mo_fresh_5 (N : Nat → Nat) (Q : Int32 → rs_Mem → Prop) (K5 : Nat → Int32 → Int32 → Int32 → Int32 → rs_Mem → Prop) (v0 : Nat) (x1 : Int32) (x2 : Int32) (x3 : Int32) (x4 : Int32) (σ : rs_Mem) : Prop :=
  ((x2 ≤ x4 → (Q x3 σ)) ∧ (¬ (x2 ≤ x4) → (vp_in x4 (N (rs_R σ v0 15)) ∧ (vp_in (x4 + (1 : Int32)) (N (rs_R σ v0 15)) ∧ (F_Mo_find N v0 (rs_I σ (rs_R σ v0 15) x4.toNatClampNeg) (rs_I σ (rs_R σ v0 15) (x4 + (1 : Int32)).toNatClampNeg) σ (fun x56 σ55 => ((0 ≤ x56 → (∃ n : Nat, L_Mo_fresh_44 N K5 Q n v0 x1 x2 x3 x4 (0 : Int32) x1 σ55)) ∧ (¬ (0 ≤ x56) → (∃ n : Nat, L_Mo_fresh_44 N K5 Q n v0 x1 x2 x3 x4 (1 : Int32) x1 σ55)))))))))
noncomputable def L_Mo_fresh_5 (N : Nat → Nat) (Q : Int32 → rs_Mem → Prop) (n : Nat) : Nat → Int32 → Int32 → Int32 → Int32 → rs_Mem → Prop := Nat.rec (motive := fun _ => Nat → Int32 → Int32 → Int32 → Int32 → rs_Mem → Prop) (fun _ _ _ _ _ _ => False) (fun _ K => G_Mo_fresh_5 N Q K) n
def F_Mo_fresh (N : Nat → Nat) (v0 : Nat) (x1 : Int32) (x2 : Int32) (σ : rs_Mem) (Q : Int32 → rs_Mem → Prop) : Prop :=
  (∃ n : Nat, L_Mo_fresh_5 N Q n v0 x1 x2 (0 : Int32) x1 σ)
set_option maxRecDepth 20000 in
theorem JB_Mo_fresh_94 {p : Program} {l : Launch} {e : Env} {s : State} {m : MethodId} {args : Array Value} {below : List Frame} {meth : Method} {c : Code} {G : rs_G} {Bm : Nat} {S : rs_Shp} {K5 : Nat → Int32 → Int32 → Int32 → Int32 → rs_Mem → Prop} {K44 : Nat → Int32 → Int32 → Int32 → Int32 → Int32 → Int32 → rs_Mem → Prop} {Q : Int32 → rs_Mem → Prop} (C : rs_C "RouteSpeakerModel" prog_12_method_33_code 7 (some .int) G p s m meth c args) (hK5 : ∀ (v0 : Nat) (x1 : Int32) (x2 : Int32) (x3 : Int32) (x4 : Int32) (σ : rs_Mem) (H : Heap) (locs : List Loc) (ls : Array Slot), rs_Ok S 11 v0 → rs_H G Bm S σ H → rs_T S σ → va_S (rs_A Bm) s.heap H locs → lv_has ls 7 [(0, .ref (Bm + v0)), (1, .int x1), (2, .int x2), (3, .int x3), (4, .int x4)] → K5 v0 x1 x2 x3 x4 σ → W p l e { frames := 1, cells := 0, slots := 0, locals := 23 } s m args below meth c H locs 0 0 (MQ below (rs_Qi G Bm S Q) args s 0 0 (rs_A Bm)) (F0 m 5 ls [])) (hK44 : ∀ (v0 : Nat) (x1 : Int32) (x2 : Int32) (x3 : Int32) (x4 : Int32) (x5 : Int32) (x6 : Int32) (σ : rs_Mem) (H : Heap) (locs : List Loc) (ls : Array Slot), rs_Ok S 11 v0 → rs_H G Bm S σ H → rs_T S σ → va_S (rs_A Bm) s.heap H locs → lv_has ls 7 [(0, .ref (Bm + v0)), (1, .int x1), (2, .int x2), (3, .int x3), (4, .int x4), (5, .int x5), (6, .int x6)] → K44 v0 x1 x2 x3 x4 x5 x6 σ → W p l e { frames := 1, cells := 0, slots := 0, locals := 23 } s m args below meth c H locs 0 0 (MQ below (rs_Qi G Bm S Q) args s 0 0 (rs_A Bm)) (F0 m 44 ls [])) (v0 : Nat) (x1 : Int32) (x2 : Int32) (x3 : Int32) (x4 : Int32) (x6 : Int32) (σ : rs_Mem) (H : Heap) (locs : List Loc) (ls : Array Slot) (h_v0 : rs_Ok S 11 v0) (hH : rs_H G Bm S σ H) (hT : rs_T S σ) (hS : va_S (rs_A Bm) s.heap H locs) (hl : lv_has ls 7 [(0, .ref (Bm + v0)), (1, .int x1), (2, .int x2), (3, .int x3), (4, .int x4), (6, .int x6)]) (hF : B_Mo_fresh_94 S.2.2 K5 K44 Q v0 x1 x2 x3 x4 x6 σ) :
    W p l e { frames := 1, cells := 0, slots := 0, locals := 23 } s m args below meth c H locs 0 0 (MQ below (rs_Qi G Bm S Q) args s 0 0 (rs_A Bm)) (F0 m 94 ls []) := by
  have hx := C.1
  have hb := C.2.1
  unfold B_Mo_fresh_94 at hF
  refine lv_iconst hx hb d_Mo_fresh_94 ki_1 ?_
  refine lv_goto hx hb d_Mo_fresh_95 (tgt := 99) rfl ?_
  refine lv_istore hx hb d_Mo_fresh_99 hl (by decide) (lv' := [(5, .int (1 : Int32)), (0, .ref (Bm + v0)), (1, .int x1), (2, .int x2), (3, .int x3), (4, .int x4), (6, .int x6)]) rfl (fun ls hl => ?_)
  obtain ⟨x51, ex51⟩ : ∃ z : Int32, z = x6 + (2 : Int32) := ⟨_, rfl⟩
  replace hF := hF x51 ex51
  refine lv_iinc hx hb d_Mo_fresh_101 hl (k := 6) rfl (v := x51) (by rw [ki_2, ex51]) (by decide) (lv' := [(6, .int x51), (5, .int (1 : Int32)), (0, .ref (Bm + v0)), (1, .int x1), (2, .int x2), (3, .int x3), (4, .int x4)]) rfl (fun ls hl => ?_)
  refine lv_goto hx hb d_Mo_fresh_104 (tgt := 44) rfl ?_
  exact hK44 v0 x1 x2 x3 x4 (1 : Int32) x51 σ _ _ _ h_v0 hH hT hS (lv_sub hl [2, 3, 4, 5, 6, 1, 0] rfl) hF
set_option maxRecDepth 20000 in
theorem JB_Mo_fresh_98 {p : Program} {l : Launch} {e : Env} {s : State} {m : MethodId} {args : Array Value} {below : List Frame} {meth : Method} {c : Code} {G : rs_G} {Bm : Nat} {S : rs_Shp} {K5 : Nat → Int32 → Int32 → Int32 → Int32 → rs_Mem → Prop} {K44 : Nat → Int32 → Int32 → Int32 → Int32 → Int32 → Int32 → rs_Mem → Prop} {Q : Int32 → rs_Mem → Prop} (C : rs_C "RouteSpeakerModel" prog_12_method_33_code 7 (some .int) G p s m meth c args) (hK5 : ∀ (v0 : Nat) (x1 : Int32) (x2 : Int32) (x3 : Int32) (x4 : Int32) (σ : rs_Mem) (H : Heap) (locs : List Loc) (ls : Array Slot), rs_Ok S 11 v0 → rs_H G Bm S σ H → rs_T S σ → va_S (rs_A Bm) s.heap H locs → lv_has ls 7 [(0, .ref (Bm + v0)), (1, .int x1), (2, .int x2), (3, .int x3), (4, .int x4)] → K5 v0 x1 x2 x3 x4 σ → W p l e { frames := 1, cells := 0, slots := 0, locals := 23 } s m args below meth c H locs 0 0 (MQ below (rs_Qi G Bm S Q) args s 0 0 (rs_A Bm)) (F0 m 5 ls [])) (hK44 : ∀ (v0 : Nat) (x1 : Int32) (x2 : Int32) (x3 : Int32) (x4 : Int32) (x5 : Int32) (x6 : Int32) (σ : rs_Mem) (H : Heap) (locs : List Loc) (ls : Array Slot), rs_Ok S 11 v0 → rs_H G Bm S σ H → rs_T S σ → va_S (rs_A Bm) s.heap H locs → lv_has ls 7 [(0, .ref (Bm + v0)), (1, .int x1), (2, .int x2), (3, .int x3), (4, .int x4), (5, .int x5), (6, .int x6)] → K44 v0 x1 x2 x3 x4 x5 x6 σ → W p l e { frames := 1, cells := 0, slots := 0, locals := 23 } s m args below meth c H locs 0 0 (MQ below (rs_Qi G Bm S Q) args s 0 0 (rs_A Bm)) (F0 m 44 ls [])) (v0 : Nat) (x1 : Int32) (x2 : Int32) (x3 : Int32) (x4 : Int32) (x6 : Int32) (σ : rs_Mem) (H : Heap) (locs : List Loc) (ls : Array Slot) (h_v0 : rs_Ok S 11 v0) (hH : rs_H G Bm S σ H) (hT : rs_T S σ) (hS : va_S (rs_A Bm) s.heap H locs) (hl : lv_has ls 7 [(0, .ref (Bm + v0)), (1, .int x1), (2, .int x2), (3, .int x3), (4, .int x4), (6, .int x6)]) (hF : B_Mo_fresh_98 S.2.2 K5 K44 Q v0 x1 x2 x3 x4 x6 σ) :
    W p l e { frames := 1, cells := 0, slots := 0, locals := 23 } s m args below meth c H locs 0 0 (MQ below (rs_Qi G Bm S Q) args s 0 0 (rs_A Bm)) (F0 m 98 ls []) := by
  have hx := C.1
  have hb := C.2.1
  unfold B_Mo_fresh_98 at hF
  refine lv_iconst hx hb d_Mo_fresh_98 ki_0 ?_
  refine lv_istore hx hb d_Mo_fresh_99 hl (by decide) (lv' := [(5, .int (0 : Int32)), (0, .ref (Bm + v0)), (1, .int x1), (2, .int x2), (3, .int x3), (4, .int x4), (6, .int x6)]) rfl (fun ls hl => ?_)
  obtain ⟨x51, ex51⟩ : ∃ z : Int32, z = x6 + (2 : Int32) := ⟨_, rfl⟩
  replace hF := hF x51 ex51
  refine lv_iinc hx hb d_Mo_fresh_101 hl (k := 6) rfl (v := x51) (by rw [ki_2, ex51]) (by decide) (lv' := [(6, .int x51), (5, .int (0 : Int32)), (0, .ref (Bm + v0)), (1, .int x1), (2, .int x2), (3, .int x3), (4, .int x4)]) rfl (fun ls hl => ?_)
  refine lv_goto hx hb d_Mo_fresh_104 (tgt := 44) rfl ?_
  exact hK44 v0 x1 x2 x3 x4 (0 : Int32) x51 σ _ _ _ h_v0 hH hT hS (lv_sub hl [2, 3, 4, 5, 6, 1, 0] rfl) hF
set_option maxRecDepth 20000 in
theorem JB_Mo_fresh_118 {p : Program} {l : Launch} {e : Env} {s : State} {m : MethodId} {args : Array Value} {below : List Frame} {meth : Method} {c : Code} {G : rs_G} {Bm : Nat} {S : rs_Shp} {K5 : Nat → Int32 → Int32 → Int32 → Int32 → rs_Mem → Prop} {Q : Int32 → rs_Mem → Prop} (C : rs_C "RouteSpeakerModel" prog_12_method_33_code 7 (some .int) G p s m meth c args) (hK5 : ∀ (v0 : Nat) (x1 : Int32) (x2 : Int32) (x3 : Int32) (x4 : Int32) (σ : rs_Mem) (H : Heap) (locs : List Loc) (ls : Array Slot), rs_Ok S 11 v0 → rs_H G Bm S σ H → rs_T S σ → va_S (rs_A Bm) s.heap H locs → lv_has ls 7 [(0, .ref (Bm + v0)), (1, .int x1), (2, .int x2), (3, .int x3), (4, .int x4)] → K5 v0 x1 x2 x3 x4 σ → W p l e { frames := 1, cells := 0, slots := 0, locals := 23 } s m args below meth c H locs 0 0 (MQ below (rs_Qi G Bm S Q) args s 0 0 (rs_A Bm)) (F0 m 5 ls [])) (v0 : Nat) (x1 : Int32) (x2 : Int32) (x4 : Int32) (y0 : Int32) (y1 : Int32) (σ : rs_Mem) (H : Heap) (locs : List Loc) (ls : Array Slot) (h_v0 : rs_Ok S 11 v0) (hH : rs_H G Bm S σ H) (hT : rs_T S σ) (hS : va_S (rs_A Bm) s.heap H locs) (hl : lv_has ls 7 [(0, .ref (Bm + v0)), (1, .int x1), (2, .int x2), (4, .int x4)]) (hF : B_Mo_fresh_118 S.2.2 K5 Q v0 x1 x2 x4 y0 y1 σ) :
    W p l e { frames := 1, cells := 0, slots := 0, locals := 23 } s m args below meth c H locs 0 0 (MQ below (rs_Qi G Bm S Q) args s 0 0 (rs_A Bm)) (F0 m 118 ls [.int y1, .int y0]) := by
  have hx := C.1
  have hb := C.2.1
  unfold B_Mo_fresh_118 at hF
  refine lv_iadd hx hb d_Mo_fresh_118 ?_
  refine lv_topi (fun x51 ex51 => ?_)
  replace hF := hF x51 ex51
  refine lv_istore_n hx hb d_Mo_fresh_119 rfl hl (by decide) (lv' := [(3, .int x51), (0, .ref (Bm + v0)), (1, .int x1), (2, .int x2), (4, .int x4)]) rfl (fun ls hl => ?_)
  obtain ⟨x52, ex52⟩ : ∃ z : Int32, z = x4 + (2 : Int32) := ⟨_, rfl⟩
  replace hF := hF x52 ex52
  refine lv_iinc hx hb d_Mo_fresh_120 hl (k := 4) rfl (v := x52) (by rw [ki_2, ex52]) (by decide) (lv' := [(4, .int x52), (3, .int x51), (0, .ref (Bm + v0)), (1, .int x1), (2, .int x2)]) rfl (fun ls hl => ?_)
  refine lv_goto hx hb d_Mo_fresh_123 (tgt := 5) rfl ?_
  exact hK5 v0 x1 x2 x51 x52 σ _ _ _ h_v0 hH hT hS (lv_sub hl [2, 3, 4, 1, 0] rfl) hF
set_option maxRecDepth 20000 in
theorem JL_Mo_fresh_44 {p : Program} {l : Launch} {e : Env} {s : State} {m : MethodId} {args : Array Value} {below : List Frame} {meth : Method} {c : Code} {G : rs_G} {Bm : Nat} {S : rs_Shp} {K5 : Nat → Int32 → Int32 → Int32 → Int32 → rs_Mem → Prop} {Q : Int32 → rs_Mem → Prop} (C : rs_C "RouteSpeakerModel" prog_12_method_33_code 7 (some .int) G p s m meth c args) (hK5 : ∀ (v0 : Nat) (x1 : Int32) (x2 : Int32) (x3 : Int32) (x4 : Int32) (σ : rs_Mem) (H : Heap) (locs : List Loc) (ls : Array Slot), rs_Ok S 11 v0 → rs_H G Bm S σ H → rs_T S σ → va_S (rs_A Bm) s.heap H locs → lv_has ls 7 [(0, .ref (Bm + v0)), (1, .int x1), (2, .int x2), (3, .int x3), (4, .int x4)] → K5 v0 x1 x2 x3 x4 σ → W p l e { frames := 1, cells := 0, slots := 0, locals := 23 } s m args below meth c H locs 0 0 (MQ below (rs_Qi G Bm S Q) args s 0 0 (rs_A Bm)) (F0 m 5 ls [])) : ∀ n : Nat, ∀ (v0 : Nat) (x1 : Int32) (x2 : Int32) (x3 : Int32) (x4 : Int32) (x5 : Int32) (x6 : Int32) (σ : rs_Mem) (H : Heap) (locs : List Loc) (ls : Array Slot), rs_Ok S 11 v0 → rs_H G Bm S σ H → rs_T S σ → va_S (rs_A Bm) s.heap H locs → lv_has ls 7 [(0, .ref (Bm + v0)), (1, .int x1), (2, .int x2), (3, .int x3), (4, .int x4), (5, .int x5), (6, .int x6)] → (L_Mo_fresh_44 S.2.2 K5 Q n) v0 x1 x2 x3 x4 x5 x6 σ → W p l e { frames := 1, cells := 0, slots := 0, locals := 23 } s m args below meth c H locs 0 0 (MQ below (rs_Qi G Bm S Q) args s 0 0 (rs_A Bm)) (F0 m 44 ls []) := by
  have hx := C.1
  have hb := C.2.1
  intro n
  induction n with
  | zero => intros; rename_i hF; exact hF.elim
  | succ n hK44 =>
    intro v0 x1 x2 x3 x4 x5 x6 σ H locs ls h_v0 hH hT hS hl hF
    replace hF : G_Mo_fresh_44 S.2.2 K5 Q (L_Mo_fresh_44 S.2.2 K5 Q n) v0 x1 x2 x3 x4 x5 x6 σ := hF
    unfold G_Mo_fresh_44 at hF
    refine lv_iload hx hb d_Mo_fresh_44 (lv_at hl 6 rfl) ?_
    refine lv_iload hx hb d_Mo_fresh_46 (lv_at hl 4 rfl) ?_
    refine lv_icmp_ge hx hb d_Mo_fresh_48 (tgt := 107) rfl (fun hc => ?_) (fun hc => ?_)
    · replace hF := hF.1 hc
      refine lv_iload_n hx hb d_Mo_fresh_107 rfl (lv_at hl 3 rfl) ?_
      refine lv_iload hx hb d_Mo_fresh_108 (lv_at hl 5 rfl) ?_
      refine lv_if_eq hx hb d_Mo_fresh_110 (tgt := 117) rfl (fun hc => ?_) (fun hc => ?_)
      · replace hF := hF.1 hc
        refine lv_iconst hx hb d_Mo_fresh_117 ki_0 ?_
        exact JB_Mo_fresh_118 C hK5 v0 x1 x2 x4 x3 (0 : Int32) σ _ _ _ h_v0 hH hT hS (lv_sub hl [0, 1, 2, 4] rfl) hF
      · replace hF := hF.2 hc
        refine lv_iconst hx hb d_Mo_fresh_113 ki_1 ?_
        refine lv_goto hx hb d_Mo_fresh_114 (tgt := 118) rfl ?_
        exact JB_Mo_fresh_118 C hK5 v0 x1 x2 x4 x3 (1 : Int32) σ _ _ _ h_v0 hH hT hS (lv_sub hl [0, 1, 2, 4] rfl) hF
    · replace hF := hF.2 hc
      refine lv_iload hx hb d_Mo_fresh_51 (lv_at hl 5 rfl) ?_
      refine lv_if_eq hx hb d_Mo_fresh_53 (tgt := 98) rfl (fun hc => ?_) (fun hc => ?_)
      · replace hF := hF.1 hc
        exact JB_Mo_fresh_98 C hK5 hK44 v0 x1 x2 x3 x4 x6 σ _ _ _ h_v0 hH hT hS (lv_sub hl [0, 1, 2, 3, 4, 6] rfl) hF
      · replace hF := hF.2 hc
        refine lv_aload_n hx hb d_Mo_fresh_56 rfl (lv_at hl 0 rfl) ?_
        refine rs_getR C hH hT h_v0 fk_11_15 tw_914 d_Mo_fresh_57 (fun h51 => ?_)
        refine lv_iload hx hb d_Mo_fresh_60 (lv_at hl 6 rfl) ?_
        obtain ⟨g52, hF⟩ := hF
        refine rs_iald C hH h51 g52 d_Mo_fresh_62 ?_
        refine lv_aload_n hx hb d_Mo_fresh_63 rfl (lv_at hl 0 rfl) ?_
        refine rs_getR C hH hT h_v0 fk_11_15 tw_914 d_Mo_fresh_64 (fun h53 => ?_)
        refine lv_iload hx hb d_Mo_fresh_67 (lv_at hl 4 rfl) ?_
        obtain ⟨g54, hF⟩ := hF
        refine rs_iald C hH h53 g54 d_Mo_fresh_69 ?_
        refine lv_icmp_ne hx hb d_Mo_fresh_70 (tgt := 94) rfl (fun hc => ?_) (fun hc => ?_)
        · replace hF := hF.1 hc
          exact JB_Mo_fresh_94 C hK5 hK44 v0 x1 x2 x3 x4 x6 σ _ _ _ h_v0 hH hT hS (lv_sub hl [0, 1, 2, 3, 4, 6] rfl) hF
        · replace hF := hF.2 hc
          refine lv_aload_n hx hb d_Mo_fresh_73 rfl (lv_at hl 0 rfl) ?_
          refine rs_getR C hH hT h_v0 fk_11_15 tw_914 d_Mo_fresh_74 (fun h55 => ?_)
          refine lv_iload hx hb d_Mo_fresh_77 (lv_at hl 6 rfl) ?_
          refine lv_iconst hx hb d_Mo_fresh_79 ki_1 ?_
          refine lv_iadd hx hb d_Mo_fresh_80 ?_
          obtain ⟨g56, hF⟩ := hF
          refine rs_iald C hH h55 g56 d_Mo_fresh_81 ?_
          refine lv_aload_n hx hb d_Mo_fresh_82 rfl (lv_at hl 0 rfl) ?_
          refine rs_getR C hH hT h_v0 fk_11_15 tw_914 d_Mo_fresh_83 (fun h57 => ?_)
          refine lv_iload hx hb d_Mo_fresh_86 (lv_at hl 4 rfl) ?_
          refine lv_iconst hx hb d_Mo_fresh_88 ki_1 ?_
          refine lv_iadd hx hb d_Mo_fresh_89 ?_
          obtain ⟨g58, hF⟩ := hF
          refine rs_iald C hH h57 g58 d_Mo_fresh_90 ?_
          refine lv_icmp_eq hx hb d_Mo_fresh_91 (tgt := 98) rfl (fun hc => ?_) (fun hc => ?_)
          · replace hF := hF.1 hc
            exact JB_Mo_fresh_98 C hK5 hK44 v0 x1 x2 x3 x4 x6 σ _ _ _ h_v0 hH hT hS (lv_sub hl [0, 1, 2, 3, 4, 6] rfl) hF
          · replace hF := hF.2 hc
            exact JB_Mo_fresh_94 C hK5 hK44 v0 x1 x2 x3 x4 x6 σ _ _ _ h_v0 hH hT hS (lv_sub hl [0, 1, 2, 3, 4, 6] rfl) hF
set_option maxRecDepth 20000 in
theorem JL_Mo_fresh_5 {p : Program} {l : Launch} {e : Env} {s : State} {m : MethodId} {args : Array Value} {below : List Frame} {meth : Method} {c : Code} {G : rs_G} {Bm : Nat} {S : rs_Shp} {Q : Int32 → rs_Mem → Prop} (C : rs_C "RouteSpeakerModel" prog_12_method_33_code 7 (some .int) G p s m meth c args) : ∀ n : Nat, ∀ (v0 : Nat) (x1 : Int32) (x2 : Int32) (x3 : Int32) (x4 : Int32) (σ : rs_Mem) (H : Heap) (locs : List Loc) (ls : Array Slot), rs_Ok S 11 v0 → rs_H G Bm S σ H → rs_T S σ → va_S (rs_A Bm) s.heap H locs → lv_has ls 7 [(0, .ref (Bm + v0)), (1, .int x1), (2, .int x2), (3, .int x3), (4, .int x4)] → (L_Mo_fresh_5 S.2.2 Q n) v0 x1 x2 x3 x4 σ → W p l e { frames := 1, cells := 0, slots := 0, locals := 23 } s m args below meth c H locs 0 0 (MQ below (rs_Qi G Bm S Q) args s 0 0 (rs_A Bm)) (F0 m 5 ls []) := by
  have hx := C.1
  have hb := C.2.1
  intro n
  induction n with
  | zero => intros; rename_i hF; exact hF.elim
  | succ n hK5 =>
    intro v0 x1 x2 x3 x4 σ H locs ls h_v0 hH hT hS hl hF
    replace hF : G_Mo_fresh_5 S.2.2 Q (L_Mo_fresh_5 S.2.2 Q n) v0 x1 x2 x3 x4 σ := hF
    unfold G_Mo_fresh_5 at hF
    refine lv_iload hx hb d_Mo_fresh_5 (lv_at hl 4 rfl) ?_
    refine lv_iload_n hx hb d_Mo_fresh_7 rfl (lv_at hl 2 rfl) ?_
    refine lv_icmp_ge hx hb d_Mo_fresh_8 (tgt := 126) rfl (fun hc => ?_) (fun hc => ?_)
    · replace hF := hF.1 hc
      refine lv_iload_n hx hb d_Mo_fresh_126 rfl (lv_at hl 3 rfl) ?_
      exact rs_iret C hH hT hS hF d_Mo_fresh_127
    · replace hF := hF.2 hc
      refine lv_aload_n hx hb d_Mo_fresh_11 rfl (lv_at hl 0 rfl) ?_
      refine lv_aload_n hx hb d_Mo_fresh_12 rfl (lv_at hl 0 rfl) ?_
      refine rs_getR C hH hT h_v0 fk_11_15 tw_914 d_Mo_fresh_13 (fun h51 => ?_)
      refine lv_iload hx hb d_Mo_fresh_16 (lv_at hl 4 rfl) ?_
      obtain ⟨g52, hF⟩ := hF
      refine rs_iald C hH h51 g52 d_Mo_fresh_18 ?_
      refine lv_aload_n hx hb d_Mo_fresh_19 rfl (lv_at hl 0 rfl) ?_
      refine rs_getR C hH hT h_v0 fk_11_15 tw_914 d_Mo_fresh_20 (fun h53 => ?_)
      refine lv_iload hx hb d_Mo_fresh_23 (lv_at hl 4 rfl) ?_
      refine lv_iconst hx hb d_Mo_fresh_25 ki_1 ?_
      refine lv_iadd hx hb d_Mo_fresh_26 ?_
      obtain ⟨g54, hF⟩ := hF
      refine rs_iald C hH h53 g54 d_Mo_fresh_27 ?_
      refine rs_ci (rs_runV C hH hT hl (J_Mo_find l h_v0 hF) rc_Mo_find tw_1151 tw_1153 ts_56 h_v0 ⟨rfl, by decide, by decide⟩ rfl ⟨⟨rfl, rfl⟩, by decide, by decide, by decide⟩ (Nat.le_of_ble_eq_true rfl) rfl d_Mo_fresh_28) hS (fun x56 σ55 H locs hH hT hS hF => ?_)
      refine lv_if_ge hx hb d_Mo_fresh_31 (tgt := 38) rfl (fun hc => ?_) (fun hc => ?_)
      · replace hF := hF.1 hc
        refine lv_iconst hx hb d_Mo_fresh_38 ki_0 ?_
        refine lv_istore hx hb d_Mo_fresh_39 hl (by decide) (lv' := [(5, .int (0 : Int32)), (0, .ref (Bm + v0)), (1, .int x1), (2, .int x2), (3, .int x3), (4, .int x4)]) rfl (fun ls hl => ?_)
        refine lv_iload_n hx hb d_Mo_fresh_41 rfl (lv_at hl 2 rfl) ?_
        refine lv_istore hx hb d_Mo_fresh_42 hl (by decide) (lv' := [(6, .int x1), (5, .int (0 : Int32)), (0, .ref (Bm + v0)), (1, .int x1), (2, .int x2), (3, .int x3), (4, .int x4)]) rfl (fun ls hl => ?_)
        obtain ⟨n, hF⟩ := hF
        exact JL_Mo_fresh_44 C hK5 n v0 x1 x2 x3 x4 (0 : Int32) x1 σ55 _ _ _ h_v0 hH hT hS (lv_sub hl [2, 3, 4, 5, 6, 1, 0] rfl) hF
      · replace hF := hF.2 hc
        refine lv_iconst hx hb d_Mo_fresh_34 ki_1 ?_
        refine lv_goto hx hb d_Mo_fresh_35 (tgt := 39) rfl ?_
        refine lv_istore hx hb d_Mo_fresh_39 hl (by decide) (lv' := [(5, .int (1 : Int32)), (0, .ref (Bm + v0)), (1, .int x1), (2, .int x2), (3, .int x3), (4, .int x4)]) rfl (fun ls hl => ?_)
        refine lv_iload_n hx hb d_Mo_fresh_41 rfl (lv_at hl 2 rfl) ?_
        refine lv_istore hx hb d_Mo_fresh_42 hl (by decide) (lv' := [(6, .int x1), (5, .int (1 : Int32)), (0, .ref (Bm + v0)), (1, .int x1), (2, .int x2), (3, .int x3), (4, .int x4)]) rfl (fun ls hl => ?_)
        obtain ⟨n, hF⟩ := hF
        exact JL_Mo_fresh_44 C hK5 n v0 x1 x2 x3 x4 (1 : Int32) x1 σ55 _ _ _ h_v0 hH hT hS (lv_sub hl [2, 3, 4, 5, 6, 1, 0] rfl) hF
abbrev y_Mo_fresh : MethodName := ({ cls := "RouteSpeakerModel", name := "fresh", desc := "(II)I" } : Jvm.MethodName)
theorem rc_Mo_fresh : rs_Cal y_Mo_fresh prog_12_method_33_code 7 (some .int) 2 := ⟨tw_1222, tw_11, by decide, by decide, by decide +kernel⟩
set_option maxRecDepth 20000 in
theorem J_Mo_fresh (l : Launch) {G : rs_G} {Bm : Nat} {S : rs_Shp} {v0 : Nat} {x1 : Int32} {x2 : Int32} {σ : rs_Mem} {Q : Int32 → rs_Mem → Prop} (h_v0 : rs_Ok S 11 v0) (hF : F_Mo_fresh S.2.2 v0 x1 x2 σ Q) :
    Met l y_Mo_fresh (rs_ws y_Mo_fresh prog_12_method_33_code 7 (some .int)) { frames := 1, cells := 0, slots := 0, locals := 23 } (rs_P G Bm S σ [.ref (Bm + v0), .int x1, .int x2]) (rs_Qi G Bm S Q) 0 0 (rs_A Bm) := by
  refine rs_met (own := "RouteSpeakerModel") (by decide) rfl (Nat.le_of_ble_eq_true rfl) (fun p e s m below meth c ls C hl hH hT hS => ?_)
  replace hl : lv_has ls 7 [(0, .ref (Bm + v0)), (1, .int x1), (2, .int x2)] := hl
  have hx := C.1
  have hb := C.2.1
  unfold F_Mo_fresh at hF
  refine lv_iconst hx hb d_Mo_fresh_0 ki_0 ?_
  refine lv_istore_n hx hb d_Mo_fresh_1 rfl hl (by decide) (lv' := [(3, .int (0 : Int32)), (0, .ref (Bm + v0)), (1, .int x1), (2, .int x2)]) rfl (fun ls hl => ?_)
  refine lv_iload_n hx hb d_Mo_fresh_2 rfl (lv_at hl 2 rfl) ?_
  refine lv_istore hx hb d_Mo_fresh_3 hl (by decide) (lv' := [(4, .int x1), (3, .int (0 : Int32)), (0, .ref (Bm + v0)), (1, .int x1), (2, .int x2)]) rfl (fun ls hl => ?_)
  obtain ⟨n, hF⟩ := hF
  exact JL_Mo_fresh_5 C n v0 x1 x2 (0 : Int32) x1 σ _ _ _ h_v0 hH hT hS (lv_sub hl [2, 3, 4, 1, 0] rfl) hF
/-! RouteSpeakerModel.grows(ID)V -/
theorem d_Mo_grows_0 : decode prog_12_method_42_code 0 = .ok (.aload_n 0, 1) := by decide +kernel
theorem d_Mo_grows_1 : decode prog_12_method_42_code 1 = .ok (.getfield 104, 3) := by decide +kernel
theorem d_Mo_grows_4 : decode prog_12_method_42_code 4 = .ok (.iload_n 1, 1) := by decide +kernel
theorem d_Mo_grows_5 : decode prog_12_method_42_code 5 = .ok (.aload_n 0, 1) := by decide +kernel
theorem d_Mo_grows_6 : decode prog_12_method_42_code 6 = .ok (.getfield 104, 3) := by decide +kernel
theorem d_Mo_grows_9 : decode prog_12_method_42_code 9 = .ok (.iload_n 1, 1) := by decide +kernel
theorem d_Mo_grows_10 : decode prog_12_method_42_code 10 = .ok (.daload, 1) := by decide +kernel
theorem d_Mo_grows_11 : decode prog_12_method_42_code 11 = .ok (.dload_n 2, 1) := by decide +kernel
theorem d_Mo_grows_12 : decode prog_12_method_42_code 12 = .ok (.dadd, 1) := by decide +kernel
theorem d_Mo_grows_13 : decode prog_12_method_42_code 13 = .ok (.dastore, 1) := by decide +kernel
theorem d_Mo_grows_14 : decode prog_12_method_42_code 14 = .ok (.aload_n 0, 1) := by decide +kernel
theorem d_Mo_grows_15 : decode prog_12_method_42_code 15 = .ok (.getfield 108, 3) := by decide +kernel
theorem d_Mo_grows_18 : decode prog_12_method_42_code 18 = .ok (.iload_n 1, 1) := by decide +kernel
theorem d_Mo_grows_19 : decode prog_12_method_42_code 19 = .ok (.aload_n 0, 1) := by decide +kernel
theorem d_Mo_grows_20 : decode prog_12_method_42_code 20 = .ok (.getfield 108, 3) := by decide +kernel
theorem d_Mo_grows_23 : decode prog_12_method_42_code 23 = .ok (.iload_n 1, 1) := by decide +kernel
theorem d_Mo_grows_24 : decode prog_12_method_42_code 24 = .ok (.baload, 1) := by decide +kernel
theorem d_Mo_grows_25 : decode prog_12_method_42_code 25 = .ok (.ifCond .ne (16), 3) := by decide +kernel
theorem d_Mo_grows_28 : decode prog_12_method_42_code 28 = .ok (.aload_n 0, 1) := by decide +kernel
theorem d_Mo_grows_29 : decode prog_12_method_42_code 29 = .ok (.getfield 104, 3) := by decide +kernel
theorem d_Mo_grows_32 : decode prog_12_method_42_code 32 = .ok (.iload_n 1, 1) := by decide +kernel
theorem d_Mo_grows_33 : decode prog_12_method_42_code 33 = .ok (.daload, 1) := by decide +kernel
theorem d_Mo_grows_34 : decode prog_12_method_42_code 34 = .ok (.ldc2_w 231, 3) := by decide +kernel
theorem d_Mo_grows_37 : decode prog_12_method_42_code 37 = .ok (.dcmp .l, 1) := by decide +kernel
theorem d_Mo_grows_38 : decode prog_12_method_42_code 38 = .ok (.ifCond .le (7), 3) := by decide +kernel
theorem d_Mo_grows_41 : decode prog_12_method_42_code 41 = .ok (.iconst 1, 1) := by decide +kernel
theorem d_Mo_grows_42 : decode prog_12_method_42_code 42 = .ok (.goto (4), 3) := by decide +kernel
theorem d_Mo_grows_45 : decode prog_12_method_42_code 45 = .ok (.iconst 0, 1) := by decide +kernel
theorem d_Mo_grows_46 : decode prog_12_method_42_code 46 = .ok (.bastore, 1) := by decide +kernel
theorem d_Mo_grows_47 : decode prog_12_method_42_code 47 = .ok (.return_, 1) := by decide +kernel
def F_Mo_grows (N : Nat → Nat) (v0 : Nat) (x1 : Int32) (x2 : UInt64) (σ : rs_Mem) (Q : rs_Mem → Prop) : Prop :=
  (vp_in x1 (N (rs_R σ v0 34)) ∧ (vf_n64 (FP.dadd (rs_D σ (rs_R σ v0 34) x1.toNatClampNeg) x2) ∧ (vp_in x1 (N (rs_R σ v0 34)) ∧ ∀ σ56 : rs_Mem, σ56 = rs_sD σ (rs_R σ v0 34) x1.toNatClampNeg (FP.dadd (rs_D σ (rs_R σ v0 34) x1.toNatClampNeg) x2) → (vp_in x1 (N (rs_R σ56 v0 35)) ∧ ((¬ ((rs_I σ56 (rs_R σ56 v0 35) x1.toNatClampNeg) = 0) → (vp_in x1 (N (rs_R σ56 v0 35)) ∧ ∀ σ61 : rs_Mem, σ61 = rs_sI σ56 (rs_R σ56 v0 35) x1.toNatClampNeg (1 : Int32) → (Q σ61))) ∧ ((rs_I σ56 (rs_R σ56 v0 35) x1.toNatClampNeg) = 0 → (vp_in x1 (N (rs_R σ56 v0 34)) ∧ (((Op.cmpValue (FP.dcmp (rs_D σ56 (rs_R σ56 v0 34) x1.toNatClampNeg) (4656510908468559872 : UInt64)) .l) ≤ 0 → (vp_in x1 (N (rs_R σ56 v0 35)) ∧ ∀ σ63 : rs_Mem, σ63 = rs_sI σ56 (rs_R σ56 v0 35) x1.toNatClampNeg (0 : Int32) → (Q σ63))) ∧ (¬ ((Op.cmpValue (FP.dcmp (rs_D σ56 (rs_R σ56 v0 34) x1.toNatClampNeg) (4656510908468559872 : UInt64)) .l) ≤ 0) → (vp_in x1 (N (rs_R σ56 v0 35)) ∧ ∀ σ63 : rs_Mem, σ63 = rs_sI σ56 (rs_R σ56 v0 35) x1.toNatClampNeg (1 : Int32) → (Q σ63)))))))))))
abbrev y_Mo_grows : MethodName := ({ cls := "RouteSpeakerModel", name := "grows", desc := "(ID)V" } : Jvm.MethodName)
theorem rc_Mo_grows : rs_Cal y_Mo_grows prog_12_method_42_code 4 none 2 := ⟨tw_1231, tw_11, by decide, by decide, by decide +kernel⟩
set_option maxRecDepth 20000 in
theorem J_Mo_grows (l : Launch) {G : rs_G} {Bm : Nat} {S : rs_Shp} {v0 : Nat} {x1 : Int32} {x2 : UInt64} {σ : rs_Mem} {Q : rs_Mem → Prop} (h_v0 : rs_Ok S 11 v0) (hF : F_Mo_grows S.2.2 v0 x1 x2 σ Q) :
    Met l y_Mo_grows (rs_ws y_Mo_grows prog_12_method_42_code 4 none) { frames := 0, cells := 0, slots := 0, locals := 0 } (rs_P G Bm S σ [.ref (Bm + v0), .int x1, .double x2]) (rs_Qv G Bm S Q) 0 0 (rs_A Bm) := by
  refine rs_met (own := "RouteSpeakerModel") (by decide) rfl (Nat.le_of_ble_eq_true rfl) (fun p e s m below meth c ls C hl hH hT hS => ?_)
  replace hl : lv_has ls 4 [(0, .ref (Bm + v0)), (1, .int x1), (2, .double x2)] := hl
  have hx := C.1
  have hb := C.2.1
  unfold F_Mo_grows at hF
  refine lv_aload_n hx hb d_Mo_grows_0 rfl (lv_at hl 0 rfl) ?_
  refine rs_getR C hH hT h_v0 fk_11_34 tw_933 d_Mo_grows_1 (fun h51 => ?_)
  refine lv_iload_n hx hb d_Mo_grows_4 rfl (lv_at hl 1 rfl) ?_
  refine lv_aload_n hx hb d_Mo_grows_5 rfl (lv_at hl 0 rfl) ?_
  refine rs_getR C hH hT h_v0 fk_11_34 tw_933 d_Mo_grows_6 (fun h52 => ?_)
  refine lv_iload_n hx hb d_Mo_grows_9 rfl (lv_at hl 1 rfl) ?_
  obtain ⟨g53, hF⟩ := hF
  refine rs_dald C hH h52 g53 d_Mo_grows_10 ?_
  refine lv_dload_n hx hb d_Mo_grows_11 rfl (lv_at hl 2 rfl) ?_
  obtain ⟨g54, hF⟩ := hF
  refine lv_dadd hx hb d_Mo_grows_12 g54 ?_
  obtain ⟨g55, hF⟩ := hF
  refine rs_dast C hH hT hS h51 g55 d_Mo_grows_13 (fun σ56 H locs eσ56 hH hT hS => ?_)
  replace hF := hF σ56 eσ56
  refine lv_aload_n hx hb d_Mo_grows_14 rfl (lv_at hl 0 rfl) ?_
  refine rs_getR C hH hT h_v0 fk_11_35 tw_934 d_Mo_grows_15 (fun h57 => ?_)
  refine lv_iload_n hx hb d_Mo_grows_18 rfl (lv_at hl 1 rfl) ?_
  refine lv_aload_n hx hb d_Mo_grows_19 rfl (lv_at hl 0 rfl) ?_
  refine rs_getR C hH hT h_v0 fk_11_35 tw_934 d_Mo_grows_20 (fun h58 => ?_)
  refine lv_iload_n hx hb d_Mo_grows_23 rfl (lv_at hl 1 rfl) ?_
  obtain ⟨g59, hF⟩ := hF
  refine rs_zald C hH h58 g59 d_Mo_grows_24 ?_
  refine lv_if_ne hx hb d_Mo_grows_25 (tgt := 41) rfl (fun hc => ?_) (fun hc => ?_)
  · replace hF := hF.1 hc
    refine lv_iconst hx hb d_Mo_grows_41 ki_1 ?_
    refine lv_goto hx hb d_Mo_grows_42 (tgt := 46) rfl ?_
    obtain ⟨g60, hF⟩ := hF
    refine rs_zast C hH hT hS (by decide) h57 g60 d_Mo_grows_46 (fun σ61 H locs eσ61 hH hT hS => ?_)
    replace hF := hF σ61 eσ61
    exact rs_vret C hH hT hS hF d_Mo_grows_47
  · replace hF := hF.2 hc
    refine lv_aload_n hx hb d_Mo_grows_28 rfl (lv_at hl 0 rfl) ?_
    refine rs_getR C hH hT h_v0 fk_11_34 tw_933 d_Mo_grows_29 (fun h60 => ?_)
    refine lv_iload_n hx hb d_Mo_grows_32 rfl (lv_at hl 1 rfl) ?_
    obtain ⟨g61, hF⟩ := hF
    refine rs_dald C hH h60 g61 d_Mo_grows_33 ?_
    refine lv_ldc2d hx hb C.2.2.2.2.1 (C.2.2.2.2.2.1 _ tw_1232) d_Mo_grows_34 ?_
    refine lv_dcmp hx hb d_Mo_grows_37 ?_
    refine lv_if_le hx hb d_Mo_grows_38 (tgt := 45) rfl (fun hc => ?_) (fun hc => ?_)
    · replace hF := hF.1 hc
      refine lv_iconst hx hb d_Mo_grows_45 ki_0 ?_
      obtain ⟨g62, hF⟩ := hF
      refine rs_zast C hH hT hS (by decide) h57 g62 d_Mo_grows_46 (fun σ63 H locs eσ63 hH hT hS => ?_)
      replace hF := hF σ63 eσ63
      exact rs_vret C hH hT hS hF d_Mo_grows_47
    · replace hF := hF.2 hc
      refine lv_iconst hx hb d_Mo_grows_41 ki_1 ?_
      refine lv_goto hx hb d_Mo_grows_42 (tgt := 46) rfl ?_
      obtain ⟨g62, hF⟩ := hF
      refine rs_zast C hH hT hS (by decide) h57 g62 d_Mo_grows_46 (fun σ63 H locs eσ63 hH hT hS => ?_)
      replace hF := hF σ63 eσ63
      exact rs_vret C hH hT hS hF d_Mo_grows_47
/-! RouteSpeakerModel.withdraw(III)V -/
theorem d_Mo_withdraw_0 : decode prog_12_method_43_code 0 = .ok (.aload_n 0, 1) := by decide +kernel
theorem d_Mo_withdraw_1 : decode prog_12_method_43_code 1 = .ok (.iload_n 2, 1) := by decide +kernel
theorem d_Mo_withdraw_2 : decode prog_12_method_43_code 2 = .ok (.iload_n 3, 1) := by decide +kernel
theorem d_Mo_withdraw_3 : decode prog_12_method_43_code 3 = .ok (.invokevirtual 137, 3) := by decide +kernel
theorem d_Mo_withdraw_6 : decode prog_12_method_43_code 6 = .ok (.istore 4, 2) := by decide +kernel
theorem d_Mo_withdraw_8 : decode prog_12_method_43_code 8 = .ok (.iload 4, 2) := by decide +kernel
theorem d_Mo_withdraw_10 : decode prog_12_method_43_code 10 = .ok (.ifCond .lt (18), 3) := by decide +kernel
theorem d_Mo_withdraw_13 : decode prog_12_method_43_code 13 = .ok (.aload_n 0, 1) := by decide +kernel
theorem d_Mo_withdraw_14 : decode prog_12_method_43_code 14 = .ok (.getfield 73, 3) := by decide +kernel
theorem d_Mo_withdraw_17 : decode prog_12_method_43_code 17 = .ok (.bipush (12), 2) := by decide +kernel
theorem d_Mo_withdraw_19 : decode prog_12_method_43_code 19 = .ok (.iload_n 1, 1) := by decide +kernel
theorem d_Mo_withdraw_20 : decode prog_12_method_43_code 20 = .ok (.imul, 1) := by decide +kernel
theorem d_Mo_withdraw_21 : decode prog_12_method_43_code 21 = .ok (.iload 4, 2) := by decide +kernel
theorem d_Mo_withdraw_23 : decode prog_12_method_43_code 23 = .ok (.iadd, 1) := by decide +kernel
theorem d_Mo_withdraw_24 : decode prog_12_method_43_code 24 = .ok (.baload, 1) := by decide +kernel
theorem d_Mo_withdraw_25 : decode prog_12_method_43_code 25 = .ok (.ifCond .ne (4), 3) := by decide +kernel
theorem d_Mo_withdraw_28 : decode prog_12_method_43_code 28 = .ok (.return_, 1) := by decide +kernel
theorem d_Mo_withdraw_29 : decode prog_12_method_43_code 29 = .ok (.aload_n 0, 1) := by decide +kernel
theorem d_Mo_withdraw_30 : decode prog_12_method_43_code 30 = .ok (.getfield 73, 3) := by decide +kernel
theorem d_Mo_withdraw_33 : decode prog_12_method_43_code 33 = .ok (.bipush (12), 2) := by decide +kernel
theorem d_Mo_withdraw_35 : decode prog_12_method_43_code 35 = .ok (.iload_n 1, 1) := by decide +kernel
theorem d_Mo_withdraw_36 : decode prog_12_method_43_code 36 = .ok (.imul, 1) := by decide +kernel
theorem d_Mo_withdraw_37 : decode prog_12_method_43_code 37 = .ok (.iload 4, 2) := by decide +kernel
theorem d_Mo_withdraw_39 : decode prog_12_method_43_code 39 = .ok (.iadd, 1) := by decide +kernel
theorem d_Mo_withdraw_40 : decode prog_12_method_43_code 40 = .ok (.iconst 0, 1) := by decide +kernel
theorem d_Mo_withdraw_41 : decode prog_12_method_43_code 41 = .ok (.bastore, 1) := by decide +kernel
theorem d_Mo_withdraw_42 : decode prog_12_method_43_code 42 = .ok (.aload_n 0, 1) := by decide +kernel
theorem d_Mo_withdraw_43 : decode prog_12_method_43_code 43 = .ok (.bipush (12), 2) := by decide +kernel
theorem d_Mo_withdraw_45 : decode prog_12_method_43_code 45 = .ok (.iload_n 1, 1) := by decide +kernel
theorem d_Mo_withdraw_46 : decode prog_12_method_43_code 46 = .ok (.imul, 1) := by decide +kernel
theorem d_Mo_withdraw_47 : decode prog_12_method_43_code 47 = .ok (.iload 4, 2) := by decide +kernel
theorem d_Mo_withdraw_49 : decode prog_12_method_43_code 49 = .ok (.iadd, 1) := by decide +kernel
theorem d_Mo_withdraw_50 : decode prog_12_method_43_code 50 = .ok (.ldc2_w 233, 3) := by decide +kernel
theorem d_Mo_withdraw_53 : decode prog_12_method_43_code 53 = .ok (.invokevirtual 235, 3) := by decide +kernel
theorem d_Mo_withdraw_56 : decode prog_12_method_43_code 56 = .ok (.return_, 1) := by decide +kernel
def F_Mo_withdraw (N : Nat → Nat) (v0 : Nat) (x1 : Int32) (x2 : Int32) (x3 : Int32) (σ : rs_Mem) (Q : rs_Mem → Prop) : Prop :=
  (F_Mo_find N v0 x2 x3 σ (fun x52 σ51 => ((x52 < 0 → (Q σ51)) ∧ (¬ (x52 < 0) → (vp_in (((12 : Int32) * x1) + x52) (N (rs_R σ51 v0 24)) ∧ ((¬ ((rs_I σ51 (rs_R σ51 v0 24) (((12 : Int32) * x1) + x52).toNatClampNeg) = 0) → (vp_in (((12 : Int32) * x1) + x52) (N (rs_R σ51 v0 24)) ∧ ∀ σ57 : rs_Mem, σ57 = rs_sI σ51 (rs_R σ51 v0 24) (((12 : Int32) * x1) + x52).toNatClampNeg (0 : Int32) → (F_Mo_grows N v0 (((12 : Int32) * x1) + x52) (4652007308841189376 : UInt64) σ57 (fun σ58 => (Q σ58))))) ∧ ((rs_I σ51 (rs_R σ51 v0 24) (((12 : Int32) * x1) + x52).toNatClampNeg) = 0 → (Q σ51))))))))
abbrev y_Mo_withdraw : MethodName := ({ cls := "RouteSpeakerModel", name := "withdraw", desc := "(III)V" } : Jvm.MethodName)
theorem rc_Mo_withdraw : rs_Cal y_Mo_withdraw prog_12_method_43_code 5 none 3 := ⟨tw_1226, tw_11, by decide, by decide, by decide +kernel⟩
set_option maxRecDepth 20000 in
theorem J_Mo_withdraw (l : Launch) {G : rs_G} {Bm : Nat} {S : rs_Shp} {v0 : Nat} {x1 : Int32} {x2 : Int32} {x3 : Int32} {σ : rs_Mem} {Q : rs_Mem → Prop} (h_v0 : rs_Ok S 11 v0) (hF : F_Mo_withdraw S.2.2 v0 x1 x2 x3 σ Q) :
    Met l y_Mo_withdraw (rs_ws y_Mo_withdraw prog_12_method_43_code 5 none) { frames := 1, cells := 0, slots := 0, locals := 23 } (rs_P G Bm S σ [.ref (Bm + v0), .int x1, .int x2, .int x3]) (rs_Qv G Bm S Q) 0 0 (rs_A Bm) := by
  refine rs_met (own := "RouteSpeakerModel") (by decide) rfl (Nat.le_of_ble_eq_true rfl) (fun p e s m below meth c ls C hl hH hT hS => ?_)
  replace hl : lv_has ls 5 [(0, .ref (Bm + v0)), (1, .int x1), (2, .int x2), (3, .int x3)] := hl
  have hx := C.1
  have hb := C.2.1
  unfold F_Mo_withdraw at hF
  refine lv_aload_n hx hb d_Mo_withdraw_0 rfl (lv_at hl 0 rfl) ?_
  refine lv_iload_n hx hb d_Mo_withdraw_1 rfl (lv_at hl 2 rfl) ?_
  refine lv_iload_n hx hb d_Mo_withdraw_2 rfl (lv_at hl 3 rfl) ?_
  refine rs_ci (rs_runV C hH hT hl (J_Mo_find l h_v0 hF) rc_Mo_find tw_1151 tw_1153 ts_56 h_v0 ⟨rfl, by decide, by decide⟩ rfl ⟨⟨rfl, rfl⟩, by decide, by decide, by decide⟩ (Nat.le_of_ble_eq_true rfl) rfl d_Mo_withdraw_3) hS (fun x52 σ51 H locs hH hT hS hF => ?_)
  refine lv_istore hx hb d_Mo_withdraw_6 hl (by decide) (lv' := [(4, .int x52), (0, .ref (Bm + v0)), (1, .int x1), (2, .int x2), (3, .int x3)]) rfl (fun ls hl => ?_)
  refine lv_iload hx hb d_Mo_withdraw_8 (lv_at hl 0 rfl) ?_
  refine lv_if_lt hx hb d_Mo_withdraw_10 (tgt := 28) rfl (fun hc => ?_) (fun hc => ?_)
  · replace hF := hF.1 hc
    exact rs_vret C hH hT hS hF d_Mo_withdraw_28
  · replace hF := hF.2 hc
    refine lv_aload_n hx hb d_Mo_withdraw_13 rfl (lv_at hl 1 rfl) ?_
    refine rs_getR C hH hT h_v0 fk_11_24 tw_923 d_Mo_withdraw_14 (fun h53 => ?_)
    refine lv_bipush hx hb d_Mo_withdraw_17 kb_12 ?_
    refine lv_iload_n hx hb d_Mo_withdraw_19 rfl (lv_at hl 2 rfl) ?_
    refine lv_imul hx hb d_Mo_withdraw_20 ?_
    refine lv_iload hx hb d_Mo_withdraw_21 (lv_at hl 0 rfl) ?_
    refine lv_iadd hx hb d_Mo_withdraw_23 ?_
    obtain ⟨g54, hF⟩ := hF
    refine rs_zald C hH h53 g54 d_Mo_withdraw_24 ?_
    refine lv_if_ne hx hb d_Mo_withdraw_25 (tgt := 29) rfl (fun hc => ?_) (fun hc => ?_)
    · replace hF := hF.1 hc
      refine lv_aload_n hx hb d_Mo_withdraw_29 rfl (lv_at hl 1 rfl) ?_
      refine rs_getR C hH hT h_v0 fk_11_24 tw_923 d_Mo_withdraw_30 (fun h55 => ?_)
      refine lv_bipush hx hb d_Mo_withdraw_33 kb_12 ?_
      refine lv_iload_n hx hb d_Mo_withdraw_35 rfl (lv_at hl 2 rfl) ?_
      refine lv_imul hx hb d_Mo_withdraw_36 ?_
      refine lv_iload hx hb d_Mo_withdraw_37 (lv_at hl 0 rfl) ?_
      refine lv_iadd hx hb d_Mo_withdraw_39 ?_
      refine lv_iconst hx hb d_Mo_withdraw_40 ki_0 ?_
      obtain ⟨g56, hF⟩ := hF
      refine rs_zast C hH hT hS (by decide) h55 g56 d_Mo_withdraw_41 (fun σ57 H locs eσ57 hH hT hS => ?_)
      replace hF := hF σ57 eσ57
      refine lv_aload_n hx hb d_Mo_withdraw_42 rfl (lv_at hl 1 rfl) ?_
      refine lv_bipush hx hb d_Mo_withdraw_43 kb_12 ?_
      refine lv_iload_n hx hb d_Mo_withdraw_45 rfl (lv_at hl 2 rfl) ?_
      refine lv_imul hx hb d_Mo_withdraw_46 ?_
      refine lv_iload hx hb d_Mo_withdraw_47 (lv_at hl 0 rfl) ?_
      refine lv_iadd hx hb d_Mo_withdraw_49 ?_
      refine lv_ldc2d hx hb C.2.2.2.2.1 (C.2.2.2.2.2.1 _ tw_1227) d_Mo_withdraw_50 ?_
      refine rs_cv (rs_runV C hH hT hl (J_Mo_grows l h_v0 hF) rc_Mo_grows tw_1228 tw_1230 ts_70 h_v0 ⟨rfl, by decide, by decide⟩ rfl ⟨⟨rfl, rfl⟩, by decide, by decide, by decide⟩ (Nat.le_of_ble_eq_true rfl) rfl d_Mo_withdraw_53) hS (fun σ58 H locs hH hT hS hF => ?_)
      exact rs_vret C hH hT hS hF d_Mo_withdraw_56
    · replace hF := hF.2 hc
      exact rs_vret C hH hT hS hF d_Mo_withdraw_28
/-! RouteSpeakerModel.said(II)I -/
theorem d_Mo_said_0 : decode prog_12_method_38_code 0 = .ok (.aload_n 0, 1) := by decide +kernel
theorem d_Mo_said_1 : decode prog_12_method_38_code 1 = .ok (.getfield 120, 3) := by decide +kernel
theorem d_Mo_said_4 : decode prog_12_method_38_code 4 = .ok (.iload_n 1, 1) := by decide +kernel
theorem d_Mo_said_5 : decode prog_12_method_38_code 5 = .ok (.iaload, 1) := by decide +kernel
theorem d_Mo_said_6 : decode prog_12_method_38_code 6 = .ok (.ifCond .ge (7), 3) := by decide +kernel
theorem d_Mo_said_9 : decode prog_12_method_38_code 9 = .ok (.iload_n 2, 1) := by decide +kernel
theorem d_Mo_said_10 : decode prog_12_method_38_code 10 = .ok (.goto (16), 3) := by decide +kernel
theorem d_Mo_said_13 : decode prog_12_method_38_code 13 = .ok (.aload_n 0, 1) := by decide +kernel
theorem d_Mo_said_14 : decode prog_12_method_38_code 14 = .ok (.getfield 52, 3) := by decide +kernel
theorem d_Mo_said_17 : decode prog_12_method_38_code 17 = .ok (.aload_n 0, 1) := by decide +kernel
theorem d_Mo_said_18 : decode prog_12_method_38_code 18 = .ok (.getfield 120, 3) := by decide +kernel
theorem d_Mo_said_21 : decode prog_12_method_38_code 21 = .ok (.iload_n 1, 1) := by decide +kernel
theorem d_Mo_said_22 : decode prog_12_method_38_code 22 = .ok (.iaload, 1) := by decide +kernel
theorem d_Mo_said_23 : decode prog_12_method_38_code 23 = .ok (.iconst 1, 1) := by decide +kernel
theorem d_Mo_said_24 : decode prog_12_method_38_code 24 = .ok (.iadd, 1) := by decide +kernel
theorem d_Mo_said_25 : decode prog_12_method_38_code 25 = .ok (.iaload, 1) := by decide +kernel
theorem d_Mo_said_26 : decode prog_12_method_38_code 26 = .ok (.ireturn, 1) := by decide +kernel
def F_Mo_said (N : Nat → Nat) (v0 : Nat) (x1 : Int32) (x2 : Int32) (σ : rs_Mem) (Q : Int32 → rs_Mem → Prop) : Prop :=
  (vp_in x1 (N (rs_R σ v0 39)) ∧ ((0 ≤ (rs_I σ (rs_R σ v0 39) x1.toNatClampNeg) → (vp_in x1 (N (rs_R σ v0 39)) ∧ (vp_in ((rs_I σ (rs_R σ v0 39) x1.toNatClampNeg) + (1 : Int32)) (N (rs_R σ v0 15)) ∧ (Q (rs_I σ (rs_R σ v0 15) ((rs_I σ (rs_R σ v0 39) x1.toNatClampNeg) + (1 : Int32)).toNatClampNeg) σ)))) ∧ (¬ (0 ≤ (rs_I σ (rs_R σ v0 39) x1.toNatClampNeg)) → (Q x2 σ))))
abbrev y_Mo_said : MethodName := ({ cls := "RouteSpeakerModel", name := "said", desc := "(II)I" } : Jvm.MethodName)
theorem rc_Mo_said : rs_Cal y_Mo_said prog_12_method_38_code 3 (some .int) 2 := ⟨tw_1244, tw_11, by decide, by decide, by decide +kernel⟩
set_option maxRecDepth 20000 in
theorem J_Mo_said (l : Launch) {G : rs_G} {Bm : Nat} {S : rs_Shp} {v0 : Nat} {x1 : Int32} {x2 : Int32} {σ : rs_Mem} {Q : Int32 → rs_Mem → Prop} (h_v0 : rs_Ok S 11 v0) (hF : F_Mo_said S.2.2 v0 x1 x2 σ Q) :
    Met l y_Mo_said (rs_ws y_Mo_said prog_12_method_38_code 3 (some .int)) { frames := 0, cells := 0, slots := 0, locals := 0 } (rs_P G Bm S σ [.ref (Bm + v0), .int x1, .int x2]) (rs_Qi G Bm S Q) 0 0 (rs_A Bm) := by
  refine rs_met (own := "RouteSpeakerModel") (by decide) rfl (Nat.le_of_ble_eq_true rfl) (fun p e s m below meth c ls C hl hH hT hS => ?_)
  replace hl : lv_has ls 3 [(0, .ref (Bm + v0)), (1, .int x1), (2, .int x2)] := hl
  have hx := C.1
  have hb := C.2.1
  unfold F_Mo_said at hF
  refine lv_aload_n hx hb d_Mo_said_0 rfl (lv_at hl 0 rfl) ?_
  refine rs_getR C hH hT h_v0 fk_11_39 tw_938 d_Mo_said_1 (fun h51 => ?_)
  refine lv_iload_n hx hb d_Mo_said_4 rfl (lv_at hl 1 rfl) ?_
  obtain ⟨g52, hF⟩ := hF
  refine rs_iald C hH h51 g52 d_Mo_said_5 ?_
  refine lv_if_ge hx hb d_Mo_said_6 (tgt := 13) rfl (fun hc => ?_) (fun hc => ?_)
  · replace hF := hF.1 hc
    refine lv_aload_n hx hb d_Mo_said_13 rfl (lv_at hl 0 rfl) ?_
    refine rs_getR C hH hT h_v0 fk_11_15 tw_914 d_Mo_said_14 (fun h53 => ?_)
    refine lv_aload_n hx hb d_Mo_said_17 rfl (lv_at hl 0 rfl) ?_
    refine rs_getR C hH hT h_v0 fk_11_39 tw_938 d_Mo_said_18 (fun h54 => ?_)
    refine lv_iload_n hx hb d_Mo_said_21 rfl (lv_at hl 1 rfl) ?_
    obtain ⟨g55, hF⟩ := hF
    refine rs_iald C hH h54 g55 d_Mo_said_22 ?_
    refine lv_iconst hx hb d_Mo_said_23 ki_1 ?_
    refine lv_iadd hx hb d_Mo_said_24 ?_
    obtain ⟨g56, hF⟩ := hF
    refine rs_iald C hH h53 g56 d_Mo_said_25 ?_
    exact rs_iret C hH hT hS hF d_Mo_said_26
  · replace hF := hF.2 hc
    refine lv_iload_n hx hb d_Mo_said_9 rfl (lv_at hl 2 rfl) ?_
    refine lv_goto hx hb d_Mo_said_10 (tgt := 26) rfl ?_
    exact rs_iret C hH hT hS hF d_Mo_said_26
/-! RouteSpeakerModel.hand(Z)V -/
theorem d_Mo_hand_0 : decode prog_12_method_39_code 0 = .ok (.bipush (60), 2) := by decide +kernel
theorem d_Mo_hand_2 : decode prog_12_method_39_code 2 = .ok (.istore_n 2, 1) := by decide +kernel
theorem d_Mo_hand_3 : decode prog_12_method_39_code 3 = .ok (.aload_n 0, 1) := by decide +kernel
theorem d_Mo_hand_4 : decode prog_12_method_39_code 4 = .ok (.getfield 77, 3) := by decide +kernel
theorem d_Mo_hand_7 : decode prog_12_method_39_code 7 = .ok (.iload_n 2, 1) := by decide +kernel
theorem d_Mo_hand_8 : decode prog_12_method_39_code 8 = .ok (.aload_n 0, 1) := by decide +kernel
theorem d_Mo_hand_9 : decode prog_12_method_39_code 9 = .ok (.iconst 1, 1) := by decide +kernel
theorem d_Mo_hand_10 : decode prog_12_method_39_code 10 = .ok (.iconst 0, 1) := by decide +kernel
theorem d_Mo_hand_11 : decode prog_12_method_39_code 11 = .ok (.invokevirtual 228, 3) := by decide +kernel
theorem d_Mo_hand_14 : decode prog_12_method_39_code 14 = .ok (.iastore, 1) := by decide +kernel
theorem d_Mo_hand_15 : decode prog_12_method_39_code 15 = .ok (.aload_n 0, 1) := by decide +kernel
theorem d_Mo_hand_16 : decode prog_12_method_39_code 16 = .ok (.getfield 86, 3) := by decide +kernel
theorem d_Mo_hand_19 : decode prog_12_method_39_code 19 = .ok (.iload_n 2, 1) := by decide +kernel
theorem d_Mo_hand_20 : decode prog_12_method_39_code 20 = .ok (.aload_n 0, 1) := by decide +kernel
theorem d_Mo_hand_21 : decode prog_12_method_39_code 21 = .ok (.iconst 3, 1) := by decide +kernel
theorem d_Mo_hand_22 : decode prog_12_method_39_code 22 = .ok (.iconst 0, 1) := by decide +kernel
theorem d_Mo_hand_23 : decode prog_12_method_39_code 23 = .ok (.invokevirtual 228, 3) := by decide +kernel
theorem d_Mo_hand_26 : decode prog_12_method_39_code 26 = .ok (.iastore, 1) := by decide +kernel
theorem d_Mo_hand_27 : decode prog_12_method_39_code 27 = .ok (.aload_n 0, 1) := by decide +kernel
theorem d_Mo_hand_28 : decode prog_12_method_39_code 28 = .ok (.getfield 89, 3) := by decide +kernel
theorem d_Mo_hand_31 : decode prog_12_method_39_code 31 = .ok (.iload_n 2, 1) := by decide +kernel
theorem d_Mo_hand_32 : decode prog_12_method_39_code 32 = .ok (.aload_n 0, 1) := by decide +kernel
theorem d_Mo_hand_33 : decode prog_12_method_39_code 33 = .ok (.iconst 4, 1) := by decide +kernel
theorem d_Mo_hand_34 : decode prog_12_method_39_code 34 = .ok (.iconst (-1), 1) := by decide +kernel
theorem d_Mo_hand_35 : decode prog_12_method_39_code 35 = .ok (.invokevirtual 228, 3) := by decide +kernel
theorem d_Mo_hand_38 : decode prog_12_method_39_code 38 = .ok (.iastore, 1) := by decide +kernel
theorem d_Mo_hand_39 : decode prog_12_method_39_code 39 = .ok (.aload_n 0, 1) := by decide +kernel
theorem d_Mo_hand_40 : decode prog_12_method_39_code 40 = .ok (.getfield 92, 3) := by decide +kernel
theorem d_Mo_hand_43 : decode prog_12_method_39_code 43 = .ok (.iload_n 2, 1) := by decide +kernel
theorem d_Mo_hand_44 : decode prog_12_method_39_code 44 = .ok (.iload_n 1, 1) := by decide +kernel
theorem d_Mo_hand_45 : decode prog_12_method_39_code 45 = .ok (.ifCond .eq (12), 3) := by decide +kernel
theorem d_Mo_hand_48 : decode prog_12_method_39_code 48 = .ok (.aload_n 0, 1) := by decide +kernel
theorem d_Mo_hand_49 : decode prog_12_method_39_code 49 = .ok (.iconst 5, 1) := by decide +kernel
theorem d_Mo_hand_50 : decode prog_12_method_39_code 50 = .ok (.iconst 0, 1) := by decide +kernel
theorem d_Mo_hand_51 : decode prog_12_method_39_code 51 = .ok (.invokevirtual 228, 3) := by decide +kernel
theorem d_Mo_hand_54 : decode prog_12_method_39_code 54 = .ok (.goto (4), 3) := by decide +kernel
theorem d_Mo_hand_57 : decode prog_12_method_39_code 57 = .ok (.iconst 0, 1) := by decide +kernel
theorem d_Mo_hand_58 : decode prog_12_method_39_code 58 = .ok (.iastore, 1) := by decide +kernel
theorem d_Mo_hand_59 : decode prog_12_method_39_code 59 = .ok (.aload_n 0, 1) := by decide +kernel
theorem d_Mo_hand_60 : decode prog_12_method_39_code 60 = .ok (.getfield 95, 3) := by decide +kernel
theorem d_Mo_hand_63 : decode prog_12_method_39_code 63 = .ok (.iload_n 2, 1) := by decide +kernel
theorem d_Mo_hand_64 : decode prog_12_method_39_code 64 = .ok (.iload_n 1, 1) := by decide +kernel
theorem d_Mo_hand_65 : decode prog_12_method_39_code 65 = .ok (.ifCond .eq (13), 3) := by decide +kernel
theorem d_Mo_hand_68 : decode prog_12_method_39_code 68 = .ok (.aload_n 0, 1) := by decide +kernel
theorem d_Mo_hand_69 : decode prog_12_method_39_code 69 = .ok (.bipush (9), 2) := by decide +kernel
theorem d_Mo_hand_71 : decode prog_12_method_39_code 71 = .ok (.iconst 0, 1) := by decide +kernel
theorem d_Mo_hand_72 : decode prog_12_method_39_code 72 = .ok (.invokevirtual 228, 3) := by decide +kernel
theorem d_Mo_hand_75 : decode prog_12_method_39_code 75 = .ok (.goto (4), 3) := by decide +kernel
theorem d_Mo_hand_78 : decode prog_12_method_39_code 78 = .ok (.iconst 0, 1) := by decide +kernel
theorem d_Mo_hand_79 : decode prog_12_method_39_code 79 = .ok (.iastore, 1) := by decide +kernel
theorem d_Mo_hand_80 : decode prog_12_method_39_code 80 = .ok (.aload_n 0, 1) := by decide +kernel
theorem d_Mo_hand_81 : decode prog_12_method_39_code 81 = .ok (.getfield 80, 3) := by decide +kernel
theorem d_Mo_hand_84 : decode prog_12_method_39_code 84 = .ok (.iload_n 2, 1) := by decide +kernel
theorem d_Mo_hand_85 : decode prog_12_method_39_code 85 = .ok (.aload_n 0, 1) := by decide +kernel
theorem d_Mo_hand_86 : decode prog_12_method_39_code 86 = .ok (.getfield 52, 3) := by decide +kernel
theorem d_Mo_hand_89 : decode prog_12_method_39_code 89 = .ok (.aload_n 0, 1) := by decide +kernel
theorem d_Mo_hand_90 : decode prog_12_method_39_code 90 = .ok (.getfield 120, 3) := by decide +kernel
theorem d_Mo_hand_93 : decode prog_12_method_39_code 93 = .ok (.iconst 2, 1) := by decide +kernel
theorem d_Mo_hand_94 : decode prog_12_method_39_code 94 = .ok (.iaload, 1) := by decide +kernel
theorem d_Mo_hand_95 : decode prog_12_method_39_code 95 = .ok (.iaload, 1) := by decide +kernel
theorem d_Mo_hand_96 : decode prog_12_method_39_code 96 = .ok (.iastore, 1) := by decide +kernel
theorem d_Mo_hand_97 : decode prog_12_method_39_code 97 = .ok (.iconst 0, 1) := by decide +kernel
theorem d_Mo_hand_98 : decode prog_12_method_39_code 98 = .ok (.istore_n 3, 1) := by decide +kernel
theorem d_Mo_hand_99 : decode prog_12_method_39_code 99 = .ok (.iload_n 3, 1) := by decide +kernel
theorem d_Mo_hand_100 : decode prog_12_method_39_code 100 = .ok (.aload_n 0, 1) := by decide +kernel
theorem d_Mo_hand_101 : decode prog_12_method_39_code 101 = .ok (.getfield 80, 3) := by decide +kernel
theorem d_Mo_hand_104 : decode prog_12_method_39_code 104 = .ok (.iload_n 2, 1) := by decide +kernel
theorem d_Mo_hand_105 : decode prog_12_method_39_code 105 = .ok (.iaload, 1) := by decide +kernel
theorem d_Mo_hand_106 : decode prog_12_method_39_code 106 = .ok (.if_icmp .ge (35), 3) := by decide +kernel
theorem d_Mo_hand_109 : decode prog_12_method_39_code 109 = .ok (.aload_n 0, 1) := by decide +kernel
theorem d_Mo_hand_110 : decode prog_12_method_39_code 110 = .ok (.getfield 83, 3) := by decide +kernel
theorem d_Mo_hand_113 : decode prog_12_method_39_code 113 = .ok (.bipush (8), 2) := by decide +kernel
theorem d_Mo_hand_115 : decode prog_12_method_39_code 115 = .ok (.iload_n 2, 1) := by decide +kernel
theorem d_Mo_hand_116 : decode prog_12_method_39_code 116 = .ok (.imul, 1) := by decide +kernel
theorem d_Mo_hand_117 : decode prog_12_method_39_code 117 = .ok (.iload_n 3, 1) := by decide +kernel
theorem d_Mo_hand_118 : decode prog_12_method_39_code 118 = .ok (.iadd, 1) := by decide +kernel
theorem d_Mo_hand_119 : decode prog_12_method_39_code 119 = .ok (.aload_n 0, 1) := by decide +kernel
theorem d_Mo_hand_120 : decode prog_12_method_39_code 120 = .ok (.getfield 52, 3) := by decide +kernel
theorem d_Mo_hand_123 : decode prog_12_method_39_code 123 = .ok (.aload_n 0, 1) := by decide +kernel
theorem d_Mo_hand_124 : decode prog_12_method_39_code 124 = .ok (.getfield 120, 3) := by decide +kernel
theorem d_Mo_hand_127 : decode prog_12_method_39_code 127 = .ok (.iconst 2, 1) := by decide +kernel
theorem d_Mo_hand_128 : decode prog_12_method_39_code 128 = .ok (.iaload, 1) := by decide +kernel
theorem d_Mo_hand_129 : decode prog_12_method_39_code 129 = .ok (.iconst 1, 1) := by decide +kernel
theorem d_Mo_hand_130 : decode prog_12_method_39_code 130 = .ok (.iadd, 1) := by decide +kernel
theorem d_Mo_hand_131 : decode prog_12_method_39_code 131 = .ok (.iload_n 3, 1) := by decide +kernel
theorem d_Mo_hand_132 : decode prog_12_method_39_code 132 = .ok (.iadd, 1) := by decide +kernel
theorem d_Mo_hand_133 : decode prog_12_method_39_code 133 = .ok (.iaload, 1) := by decide +kernel
theorem d_Mo_hand_134 : decode prog_12_method_39_code 134 = .ok (.iastore, 1) := by decide +kernel
theorem d_Mo_hand_135 : decode prog_12_method_39_code 135 = .ok (.iinc 3 (1), 3) := by decide +kernel
theorem d_Mo_hand_138 : decode prog_12_method_39_code 138 = .ok (.goto (-39), 3) := by decide +kernel
theorem d_Mo_hand_141 : decode prog_12_method_39_code 141 = .ok (.aload_n 0, 1) := by decide +kernel
theorem d_Mo_hand_142 : decode prog_12_method_39_code 142 = .ok (.getfield 98, 3) := by decide +kernel
theorem d_Mo_hand_145 : decode prog_12_method_39_code 145 = .ok (.iload_n 2, 1) := by decide +kernel
theorem d_Mo_hand_146 : decode prog_12_method_39_code 146 = .ok (.iload_n 1, 1) := by decide +kernel
theorem d_Mo_hand_147 : decode prog_12_method_39_code 147 = .ok (.ifCond .eq (28), 3) := by decide +kernel
theorem d_Mo_hand_150 : decode prog_12_method_39_code 150 = .ok (.aload_n 0, 1) := by decide +kernel
theorem d_Mo_hand_151 : decode prog_12_method_39_code 151 = .ok (.getfield 120, 3) := by decide +kernel
theorem d_Mo_hand_154 : decode prog_12_method_39_code 154 = .ok (.bipush (10), 2) := by decide +kernel
theorem d_Mo_hand_156 : decode prog_12_method_39_code 156 = .ok (.iaload, 1) := by decide +kernel
theorem d_Mo_hand_157 : decode prog_12_method_39_code 157 = .ok (.ifCond .lt (18), 3) := by decide +kernel
theorem d_Mo_hand_160 : decode prog_12_method_39_code 160 = .ok (.aload_n 0, 1) := by decide +kernel
theorem d_Mo_hand_161 : decode prog_12_method_39_code 161 = .ok (.getfield 52, 3) := by decide +kernel
theorem d_Mo_hand_164 : decode prog_12_method_39_code 164 = .ok (.aload_n 0, 1) := by decide +kernel
theorem d_Mo_hand_165 : decode prog_12_method_39_code 165 = .ok (.getfield 120, 3) := by decide +kernel
theorem d_Mo_hand_168 : decode prog_12_method_39_code 168 = .ok (.bipush (10), 2) := by decide +kernel
theorem d_Mo_hand_170 : decode prog_12_method_39_code 170 = .ok (.iaload, 1) := by decide +kernel
theorem d_Mo_hand_171 : decode prog_12_method_39_code 171 = .ok (.iaload, 1) := by decide +kernel
theorem d_Mo_hand_172 : decode prog_12_method_39_code 172 = .ok (.goto (4), 3) := by decide +kernel
theorem d_Mo_hand_175 : decode prog_12_method_39_code 175 = .ok (.iconst 0, 1) := by decide +kernel
theorem d_Mo_hand_176 : decode prog_12_method_39_code 176 = .ok (.iastore, 1) := by decide +kernel
theorem d_Mo_hand_177 : decode prog_12_method_39_code 177 = .ok (.iconst 0, 1) := by decide +kernel
theorem d_Mo_hand_178 : decode prog_12_method_39_code 178 = .ok (.istore_n 3, 1) := by decide +kernel
theorem d_Mo_hand_179 : decode prog_12_method_39_code 179 = .ok (.iload_n 3, 1) := by decide +kernel
theorem d_Mo_hand_180 : decode prog_12_method_39_code 180 = .ok (.aload_n 0, 1) := by decide +kernel
theorem d_Mo_hand_181 : decode prog_12_method_39_code 181 = .ok (.getfield 98, 3) := by decide +kernel
theorem d_Mo_hand_184 : decode prog_12_method_39_code 184 = .ok (.iload_n 2, 1) := by decide +kernel
theorem d_Mo_hand_185 : decode prog_12_method_39_code 185 = .ok (.iaload, 1) := by decide +kernel
theorem d_Mo_hand_186 : decode prog_12_method_39_code 186 = .ok (.if_icmp .ge (36), 3) := by decide +kernel
theorem d_Mo_hand_189 : decode prog_12_method_39_code 189 = .ok (.aload_n 0, 1) := by decide +kernel
theorem d_Mo_hand_190 : decode prog_12_method_39_code 190 = .ok (.getfield 101, 3) := by decide +kernel
theorem d_Mo_hand_193 : decode prog_12_method_39_code 193 = .ok (.bipush (6), 2) := by decide +kernel
theorem d_Mo_hand_195 : decode prog_12_method_39_code 195 = .ok (.iload_n 2, 1) := by decide +kernel
theorem d_Mo_hand_196 : decode prog_12_method_39_code 196 = .ok (.imul, 1) := by decide +kernel
theorem d_Mo_hand_197 : decode prog_12_method_39_code 197 = .ok (.iload_n 3, 1) := by decide +kernel
theorem d_Mo_hand_198 : decode prog_12_method_39_code 198 = .ok (.iadd, 1) := by decide +kernel
theorem d_Mo_hand_199 : decode prog_12_method_39_code 199 = .ok (.aload_n 0, 1) := by decide +kernel
theorem d_Mo_hand_200 : decode prog_12_method_39_code 200 = .ok (.getfield 52, 3) := by decide +kernel
theorem d_Mo_hand_203 : decode prog_12_method_39_code 203 = .ok (.aload_n 0, 1) := by decide +kernel
theorem d_Mo_hand_204 : decode prog_12_method_39_code 204 = .ok (.getfield 120, 3) := by decide +kernel
theorem d_Mo_hand_207 : decode prog_12_method_39_code 207 = .ok (.bipush (10), 2) := by decide +kernel
theorem d_Mo_hand_209 : decode prog_12_method_39_code 209 = .ok (.iaload, 1) := by decide +kernel
theorem d_Mo_hand_210 : decode prog_12_method_39_code 210 = .ok (.iconst 1, 1) := by decide +kernel
theorem d_Mo_hand_211 : decode prog_12_method_39_code 211 = .ok (.iadd, 1) := by decide +kernel
theorem d_Mo_hand_212 : decode prog_12_method_39_code 212 = .ok (.iload_n 3, 1) := by decide +kernel
theorem d_Mo_hand_213 : decode prog_12_method_39_code 213 = .ok (.iadd, 1) := by decide +kernel
theorem d_Mo_hand_214 : decode prog_12_method_39_code 214 = .ok (.iaload, 1) := by decide +kernel
theorem d_Mo_hand_215 : decode prog_12_method_39_code 215 = .ok (.iastore, 1) := by decide +kernel
theorem d_Mo_hand_216 : decode prog_12_method_39_code 216 = .ok (.iinc 3 (1), 3) := by decide +kernel
theorem d_Mo_hand_219 : decode prog_12_method_39_code 219 = .ok (.goto (-40), 3) := by decide +kernel
theorem d_Mo_hand_222 : decode prog_12_method_39_code 222 = .ok (.return_, 1) := by decide +kernel
def G_Mo_hand_179 (N : Nat → Nat) (Q : rs_Mem → Prop) (K179 : Nat → Int32 → Int32 → rs_Mem → Prop) (v0 : Nat) (x2 : Int32) (x3 : Int32) (σ : rs_Mem) : Prop :=
  (vp_in x2 (N (rs_R σ v0 32)) ∧ (((rs_I σ (rs_R σ v0 32) x2.toNatClampNeg) ≤ x3 → (Q σ)) ∧ (¬ ((rs_I σ (rs_R σ v0 32) x2.toNatClampNeg) ≤ x3) → (vp_in (10 : Int32) (N (rs_R σ v0 39)) ∧ (vp_in (((rs_I σ (rs_R σ v0 39) (10 : Int32).toNatClampNeg) + (1 : Int32)) + x3) (N (rs_R σ v0 15)) ∧ (vp_in (((6 : Int32) * x2) + x3) (N (rs_R σ v0 33)) ∧ ∀ σ59 : rs_Mem, σ59 = rs_sI σ (rs_R σ v0 33) (((6 : Int32) * x2) + x3).toNatClampNeg (rs_I σ (rs_R σ v0 15) (((rs_I σ (rs_R σ v0 39) (10 : Int32).toNatClampNeg) + (1 : Int32)) + x3).toNatClampNeg) → (∀ x60 : Int32, x60 = x3 + (1 : Int32) → (K179 v0 x2 x60 σ59))))))))
noncomputable def L_Mo_hand_179 (N : Nat → Nat) (Q : rs_Mem → Prop) (n : Nat) : Nat → Int32 → Int32 → rs_Mem → Prop := Nat.rec (motive := fun _ => Nat → Int32 → Int32 → rs_Mem → Prop) (fun _ _ _ _ => False) (fun _ K => G_Mo_hand_179 N Q K) n
def B_Mo_hand_175 (N : Nat → Nat) (Q : rs_Mem → Prop) (v0 : Nat) (x2 : Int32) (w0 : Nat) (y1 : Int32) (σ : rs_Mem) : Prop :=
  (vp_in y1 (N w0) ∧ ∀ σ52 : rs_Mem, σ52 = rs_sI σ w0 y1.toNatClampNeg (0 : Int32) → (∃ n : Nat, L_Mo_hand_179 N Q n v0 x2 (0 : Int32) σ52))
def G_Mo_hand_99 (N : Nat → Nat) (Q : rs_Mem → Prop) (K99 : Nat → Int32 → Int32 → Int32 → rs_Mem → Prop) (v0 : Nat) (x1 : Int32) (x2 : Int32) (x3 : Int32) (σ : rs_Mem) : Prop :=
  (vp_in x2 (N (rs_R σ v0 26)) ∧ (((rs_I σ (rs_R σ v0 26) x2.toNatClampNeg) ≤ x3 → ((x1 = 0 → (B_Mo_hand_175 N Q v0 x2 (rs_R σ v0 32) x2 σ)) ∧ (¬ (x1 = 0) → (vp_in (10 : Int32) (N (rs_R σ v0 39)) ∧ (((rs_I σ (rs_R σ v0 39) (10 : Int32).toNatClampNeg) < 0 → (B_Mo_hand_175 N Q v0 x2 (rs_R σ v0 32) x2 σ)) ∧ (¬ ((rs_I σ (rs_R σ v0 39) (10 : Int32).toNatClampNeg) < 0) → (vp_in (10 : Int32) (N (rs_R σ v0 39)) ∧ (vp_in (rs_I σ (rs_R σ v0 39) (10 : Int32).toNatClampNeg) (N (rs_R σ v0 15)) ∧ (vp_in x2 (N (rs_R σ v0 32)) ∧ ∀ σ61 : rs_Mem, σ61 = rs_sI σ (rs_R σ v0 32) x2.toNatClampNeg (rs_I σ (rs_R σ v0 15) (rs_I σ (rs_R σ v0 39) (10 : Int32).toNatClampNeg).toNatClampNeg) → (∃ n : Nat, L_Mo_hand_179 N Q n v0 x2 (0 : Int32) σ61)))))))))) ∧ (¬ ((rs_I σ (rs_R σ v0 26) x2.toNatClampNeg) ≤ x3) → (vp_in (2 : Int32) (N (rs_R σ v0 39)) ∧ (vp_in (((rs_I σ (rs_R σ v0 39) (2 : Int32).toNatClampNeg) + (1 : Int32)) + x3) (N (rs_R σ v0 15)) ∧ (vp_in (((8 : Int32) * x2) + x3) (N (rs_R σ v0 27)) ∧ ∀ σ59 : rs_Mem, σ59 = rs_sI σ (rs_R σ v0 27) (((8 : Int32) * x2) + x3).toNatClampNeg (rs_I σ (rs_R σ v0 15) (((rs_I σ (rs_R σ v0 39) (2 : Int32).toNatClampNeg) + (1 : Int32)) + x3).toNatClampNeg) → (∀ x60 : Int32, x60 = x3 + (1 : Int32) → (K99 v0 x1 x2 x60 σ59))))))))
noncomputable def L_Mo_hand_99 (N : Nat → Nat) (Q : rs_Mem → Prop) (n : Nat) : Nat → Int32 → Int32 → Int32 → rs_Mem → Prop := Nat.rec (motive := fun _ => Nat → Int32 → Int32 → Int32 → rs_Mem → Prop) (fun _ _ _ _ _ => False) (fun _ K => G_Mo_hand_99 N Q K) n
def B_Mo_hand_79 (N : Nat → Nat) (Q : rs_Mem → Prop) (v0 : Nat) (x1 : Int32) (x2 : Int32) (w0 : Nat) (y1 : Int32) (y2 : Int32) (σ : rs_Mem) : Prop :=
  (vp_in y1 (N w0) ∧ ∀ σ52 : rs_Mem, σ52 = rs_sI σ w0 y1.toNatClampNeg y2 → (vp_in (2 : Int32) (N (rs_R σ52 v0 39)) ∧ (vp_in (rs_I σ52 (rs_R σ52 v0 39) (2 : Int32).toNatClampNeg) (N (rs_R σ52 v0 15)) ∧ (vp_in x2 (N (rs_R σ52 v0 26)) ∧ ∀ σ59 : rs_Mem, σ59 = rs_sI σ52 (rs_R σ52 v0 26) x2.toNatClampNeg (rs_I σ52 (rs_R σ52 v0 15) (rs_I σ52 (rs_R σ52 v0 39) (2 : Int32).toNatClampNeg).toNatClampNeg) → (∃ n : Nat, L_Mo_hand_99 N Q n v0 x1 x2 (0 : Int32) σ59)))))
def B_Mo_hand_58 (N : Nat → Nat) (Q : rs_Mem → Prop) (v0 : Nat) (x1 : Int32) (x2 : Int32) (w0 : Nat) (y1 : Int32) (y2 : Int32) (σ : rs_Mem) : Prop :=
  (vp_in y1 (N w0) ∧ ∀ σ52 : rs_Mem, σ52 = rs_sI σ w0 y1.toNatClampNeg y2 → ((x1 = 0 → (B_Mo_hand_79 N Q v0 x1 x2 (rs_R σ52 v0 31) x2 (0 : Int32) σ52)) ∧ (¬ (x1 = 0) → (F_Mo_said N v0 (9 : Int32) (0 : Int32) σ52 (fun x55 σ54 => (B_Mo_hand_79 N Q v0 x1 x2 (rs_R σ52 v0 31) x2 x55 σ54))))))
def F_Mo_hand (N : Nat → Nat) (v0 : Nat) (x1 : Int32) (σ : rs_Mem) (Q : rs_Mem → Prop) : Prop :=
  (F_Mo_said N v0 (1 : Int32) (0 : Int32) σ (fun x53 σ52 => (vp_in (60 : Int32) (N (rs_R σ v0 25)) ∧ ∀ σ55 : rs_Mem, σ55 = rs_sI σ52 (rs_R σ v0 25) (60 : Int32).toNatClampNeg x53 → (F_Mo_said N v0 (3 : Int32) (0 : Int32) σ55 (fun x58 σ57 => (vp_in (60 : Int32) (N (rs_R σ55 v0 28)) ∧ ∀ σ60 : rs_Mem, σ60 = rs_sI σ57 (rs_R σ55 v0 28) (60 : Int32).toNatClampNeg x58 → (F_Mo_said N v0 (4 : Int32) (-1 : Int32) σ60 (fun x63 σ62 => (vp_in (60 : Int32) (N (rs_R σ60 v0 29)) ∧ ∀ σ65 : rs_Mem, σ65 = rs_sI σ62 (rs_R σ60 v0 29) (60 : Int32).toNatClampNeg x63 → ((x1 = 0 → (B_Mo_hand_58 N Q v0 x1 (60 : Int32) (rs_R σ65 v0 30) (60 : Int32) (0 : Int32) σ65)) ∧ (¬ (x1 = 0) → (F_Mo_said N v0 (5 : Int32) (0 : Int32) σ65 (fun x68 σ67 => (B_Mo_hand_58 N Q v0 x1 (60 : Int32) (rs_R σ65 v0 30) (60 : Int32) x68 σ67))))))))))))))
set_option maxRecDepth 20000 in
theorem JL_Mo_hand_179 {p : Program} {l : Launch} {e : Env} {s : State} {m : MethodId} {args : Array Value} {below : List Frame} {meth : Method} {c : Code} {G : rs_G} {Bm : Nat} {S : rs_Shp} {Q : rs_Mem → Prop} (C : rs_C "RouteSpeakerModel" prog_12_method_39_code 4 none G p s m meth c args) : ∀ n : Nat, ∀ (v0 : Nat) (x2 : Int32) (x3 : Int32) (σ : rs_Mem) (H : Heap) (locs : List Loc) (ls : Array Slot), rs_Ok S 11 v0 → rs_H G Bm S σ H → rs_T S σ → va_S (rs_A Bm) s.heap H locs → lv_has ls 4 [(0, .ref (Bm + v0)), (2, .int x2), (3, .int x3)] → (L_Mo_hand_179 S.2.2 Q n) v0 x2 x3 σ → W p l e { frames := 1, cells := 0, slots := 0, locals := 22 } s m args below meth c H locs 0 0 (MQ below (rs_Qv G Bm S Q) args s 0 0 (rs_A Bm)) (F0 m 179 ls []) := by
  have hx := C.1
  have hb := C.2.1
  intro n
  induction n with
  | zero => intros; rename_i hF; exact hF.elim
  | succ n hK179 =>
    intro v0 x2 x3 σ H locs ls h_v0 hH hT hS hl hF
    replace hF : G_Mo_hand_179 S.2.2 Q (L_Mo_hand_179 S.2.2 Q n) v0 x2 x3 σ := hF
    unfold G_Mo_hand_179 at hF
    refine lv_iload_n hx hb d_Mo_hand_179 rfl (lv_at hl 2 rfl) ?_
    refine lv_aload_n hx hb d_Mo_hand_180 rfl (lv_at hl 0 rfl) ?_
    refine rs_getR C hH hT h_v0 fk_11_32 tw_931 d_Mo_hand_181 (fun h51 => ?_)
    refine lv_iload_n hx hb d_Mo_hand_184 rfl (lv_at hl 1 rfl) ?_
    obtain ⟨g52, hF⟩ := hF
    refine rs_iald C hH h51 g52 d_Mo_hand_185 ?_
    refine lv_icmp_ge hx hb d_Mo_hand_186 (tgt := 222) rfl (fun hc => ?_) (fun hc => ?_)
    · replace hF := hF.1 hc
      exact rs_vret C hH hT hS hF d_Mo_hand_222
    · replace hF := hF.2 hc
      refine lv_aload_n hx hb d_Mo_hand_189 rfl (lv_at hl 0 rfl) ?_
      refine rs_getR C hH hT h_v0 fk_11_33 tw_932 d_Mo_hand_190 (fun h53 => ?_)
      refine lv_bipush hx hb d_Mo_hand_193 kb_6 ?_
      refine lv_iload_n hx hb d_Mo_hand_195 rfl (lv_at hl 1 rfl) ?_
      refine lv_imul hx hb d_Mo_hand_196 ?_
      refine lv_iload_n hx hb d_Mo_hand_197 rfl (lv_at hl 2 rfl) ?_
      refine lv_iadd hx hb d_Mo_hand_198 ?_
      refine lv_aload_n hx hb d_Mo_hand_199 rfl (lv_at hl 0 rfl) ?_
      refine rs_getR C hH hT h_v0 fk_11_15 tw_914 d_Mo_hand_200 (fun h54 => ?_)
      refine lv_aload_n hx hb d_Mo_hand_203 rfl (lv_at hl 0 rfl) ?_
      refine rs_getR C hH hT h_v0 fk_11_39 tw_938 d_Mo_hand_204 (fun h55 => ?_)
      refine lv_bipush hx hb d_Mo_hand_207 kb_10 ?_
      obtain ⟨g56, hF⟩ := hF
      refine rs_iald C hH h55 g56 d_Mo_hand_209 ?_
      refine lv_iconst hx hb d_Mo_hand_210 ki_1 ?_
      refine lv_iadd hx hb d_Mo_hand_211 ?_
      refine lv_iload_n hx hb d_Mo_hand_212 rfl (lv_at hl 2 rfl) ?_
      refine lv_iadd hx hb d_Mo_hand_213 ?_
      obtain ⟨g57, hF⟩ := hF
      refine rs_iald C hH h54 g57 d_Mo_hand_214 ?_
      obtain ⟨g58, hF⟩ := hF
      refine rs_iast C hH hT hS h53 g58 d_Mo_hand_215 (fun σ59 H locs eσ59 hH hT hS => ?_)
      replace hF := hF σ59 eσ59
      obtain ⟨x60, ex60⟩ : ∃ z : Int32, z = x3 + (1 : Int32) := ⟨_, rfl⟩
      replace hF := hF x60 ex60
      refine lv_iinc hx hb d_Mo_hand_216 hl (k := 2) rfl (v := x60) (by rw [ki_1, ex60]) (by decide) (lv' := [(3, .int x60), (0, .ref (Bm + v0)), (2, .int x2)]) rfl (fun ls hl => ?_)
      refine lv_goto hx hb d_Mo_hand_219 (tgt := 179) rfl ?_
      exact hK179 v0 x2 x60 σ59 _ _ _ h_v0 hH hT hS (lv_sub hl [1, 2, 0] rfl) hF
set_option maxRecDepth 20000 in
theorem JB_Mo_hand_175 {p : Program} {l : Launch} {e : Env} {s : State} {m : MethodId} {args : Array Value} {below : List Frame} {meth : Method} {c : Code} {G : rs_G} {Bm : Nat} {S : rs_Shp} {Q : rs_Mem → Prop} (C : rs_C "RouteSpeakerModel" prog_12_method_39_code 4 none G p s m meth c args) (v0 : Nat) (x2 : Int32) (w0 : Nat) (y1 : Int32) (σ : rs_Mem) (H : Heap) (locs : List Loc) (ls : Array Slot) (h_v0 : rs_Ok S 11 v0) (h_w0 : rs_Ok S 20 w0) (hH : rs_H G Bm S σ H) (hT : rs_T S σ) (hS : va_S (rs_A Bm) s.heap H locs) (hl : lv_has ls 4 [(0, .ref (Bm + v0)), (2, .int x2)]) (hF : B_Mo_hand_175 S.2.2 Q v0 x2 w0 y1 σ) :
    W p l e { frames := 1, cells := 0, slots := 0, locals := 22 } s m args below meth c H locs 0 0 (MQ below (rs_Qv G Bm S Q) args s 0 0 (rs_A Bm)) (F0 m 175 ls [.int y1, .ref (Bm + w0)]) := by
  have hx := C.1
  have hb := C.2.1
  unfold B_Mo_hand_175 at hF
  refine lv_iconst hx hb d_Mo_hand_175 ki_0 ?_
  obtain ⟨g51, hF⟩ := hF
  refine rs_iast C hH hT hS h_w0 g51 d_Mo_hand_176 (fun σ52 H locs eσ52 hH hT hS => ?_)
  replace hF := hF σ52 eσ52
  refine lv_iconst hx hb d_Mo_hand_177 ki_0 ?_
  refine lv_istore_n hx hb d_Mo_hand_178 rfl hl (by decide) (lv' := [(3, .int (0 : Int32)), (0, .ref (Bm + v0)), (2, .int x2)]) rfl (fun ls hl => ?_)
  obtain ⟨n, hF⟩ := hF
  exact JL_Mo_hand_179 C n v0 x2 (0 : Int32) σ52 _ _ _ h_v0 hH hT hS (lv_sub hl [1, 2, 0] rfl) hF
set_option maxRecDepth 20000 in
theorem JL_Mo_hand_99 {p : Program} {l : Launch} {e : Env} {s : State} {m : MethodId} {args : Array Value} {below : List Frame} {meth : Method} {c : Code} {G : rs_G} {Bm : Nat} {S : rs_Shp} {Q : rs_Mem → Prop} (C : rs_C "RouteSpeakerModel" prog_12_method_39_code 4 none G p s m meth c args) : ∀ n : Nat, ∀ (v0 : Nat) (x1 : Int32) (x2 : Int32) (x3 : Int32) (σ : rs_Mem) (H : Heap) (locs : List Loc) (ls : Array Slot), rs_Ok S 11 v0 → rs_H G Bm S σ H → rs_T S σ → va_S (rs_A Bm) s.heap H locs → lv_has ls 4 [(0, .ref (Bm + v0)), (1, .int x1), (2, .int x2), (3, .int x3)] → (L_Mo_hand_99 S.2.2 Q n) v0 x1 x2 x3 σ → W p l e { frames := 1, cells := 0, slots := 0, locals := 22 } s m args below meth c H locs 0 0 (MQ below (rs_Qv G Bm S Q) args s 0 0 (rs_A Bm)) (F0 m 99 ls []) := by
  have hx := C.1
  have hb := C.2.1
  intro n
  induction n with
  | zero => intros; rename_i hF; exact hF.elim
  | succ n hK99 =>
    intro v0 x1 x2 x3 σ H locs ls h_v0 hH hT hS hl hF
    replace hF : G_Mo_hand_99 S.2.2 Q (L_Mo_hand_99 S.2.2 Q n) v0 x1 x2 x3 σ := hF
    unfold G_Mo_hand_99 at hF
    refine lv_iload_n hx hb d_Mo_hand_99 rfl (lv_at hl 3 rfl) ?_
    refine lv_aload_n hx hb d_Mo_hand_100 rfl (lv_at hl 0 rfl) ?_
    refine rs_getR C hH hT h_v0 fk_11_26 tw_925 d_Mo_hand_101 (fun h51 => ?_)
    refine lv_iload_n hx hb d_Mo_hand_104 rfl (lv_at hl 2 rfl) ?_
    obtain ⟨g52, hF⟩ := hF
    refine rs_iald C hH h51 g52 d_Mo_hand_105 ?_
    refine lv_icmp_ge hx hb d_Mo_hand_106 (tgt := 141) rfl (fun hc => ?_) (fun hc => ?_)
    · replace hF := hF.1 hc
      refine lv_aload_n hx hb d_Mo_hand_141 rfl (lv_at hl 0 rfl) ?_
      refine rs_getR C hH hT h_v0 fk_11_32 tw_931 d_Mo_hand_142 (fun h53 => ?_)
      refine lv_iload_n hx hb d_Mo_hand_145 rfl (lv_at hl 2 rfl) ?_
      refine lv_iload_n hx hb d_Mo_hand_146 rfl (lv_at hl 1 rfl) ?_
      refine lv_if_eq hx hb d_Mo_hand_147 (tgt := 175) rfl (fun hc => ?_) (fun hc => ?_)
      · replace hF := hF.1 hc
        exact JB_Mo_hand_175 C v0 x2 (rs_R σ v0 32) x2 σ _ _ _ h_v0 h53 hH hT hS (lv_sub hl [0, 2] rfl) hF
      · replace hF := hF.2 hc
        refine lv_aload_n hx hb d_Mo_hand_150 rfl (lv_at hl 0 rfl) ?_
        refine rs_getR C hH hT h_v0 fk_11_39 tw_938 d_Mo_hand_151 (fun h54 => ?_)
        refine lv_bipush hx hb d_Mo_hand_154 kb_10 ?_
        obtain ⟨g55, hF⟩ := hF
        refine rs_iald C hH h54 g55 d_Mo_hand_156 ?_
        refine lv_if_lt hx hb d_Mo_hand_157 (tgt := 175) rfl (fun hc => ?_) (fun hc => ?_)
        · replace hF := hF.1 hc
          exact JB_Mo_hand_175 C v0 x2 (rs_R σ v0 32) x2 σ _ _ _ h_v0 h53 hH hT hS (lv_sub hl [0, 2] rfl) hF
        · replace hF := hF.2 hc
          refine lv_aload_n hx hb d_Mo_hand_160 rfl (lv_at hl 0 rfl) ?_
          refine rs_getR C hH hT h_v0 fk_11_15 tw_914 d_Mo_hand_161 (fun h56 => ?_)
          refine lv_aload_n hx hb d_Mo_hand_164 rfl (lv_at hl 0 rfl) ?_
          refine rs_getR C hH hT h_v0 fk_11_39 tw_938 d_Mo_hand_165 (fun h57 => ?_)
          refine lv_bipush hx hb d_Mo_hand_168 kb_10 ?_
          obtain ⟨g58, hF⟩ := hF
          refine rs_iald C hH h57 g58 d_Mo_hand_170 ?_
          obtain ⟨g59, hF⟩ := hF
          refine rs_iald C hH h56 g59 d_Mo_hand_171 ?_
          refine lv_goto hx hb d_Mo_hand_172 (tgt := 176) rfl ?_
          obtain ⟨g60, hF⟩ := hF
          refine rs_iast C hH hT hS h53 g60 d_Mo_hand_176 (fun σ61 H locs eσ61 hH hT hS => ?_)
          replace hF := hF σ61 eσ61
          refine lv_iconst hx hb d_Mo_hand_177 ki_0 ?_
          refine lv_istore_n hx hb d_Mo_hand_178 rfl hl (by decide) (lv' := [(3, .int (0 : Int32)), (0, .ref (Bm + v0)), (1, .int x1), (2, .int x2)]) rfl (fun ls hl => ?_)
          obtain ⟨n, hF⟩ := hF
          exact JL_Mo_hand_179 C n v0 x2 (0 : Int32) σ61 _ _ _ h_v0 hH hT hS (lv_sub hl [1, 3, 0] rfl) hF
    · replace hF := hF.2 hc
      refine lv_aload_n hx hb d_Mo_hand_109 rfl (lv_at hl 0 rfl) ?_
      refine rs_getR C hH hT h_v0 fk_11_27 tw_926 d_Mo_hand_110 (fun h53 => ?_)
      refine lv_bipush hx hb d_Mo_hand_113 kb_8 ?_
      refine lv_iload_n hx hb d_Mo_hand_115 rfl (lv_at hl 2 rfl) ?_
      refine lv_imul hx hb d_Mo_hand_116 ?_
      refine lv_iload_n hx hb d_Mo_hand_117 rfl (lv_at hl 3 rfl) ?_
      refine lv_iadd hx hb d_Mo_hand_118 ?_
      refine lv_aload_n hx hb d_Mo_hand_119 rfl (lv_at hl 0 rfl) ?_
      refine rs_getR C hH hT h_v0 fk_11_15 tw_914 d_Mo_hand_120 (fun h54 => ?_)
      refine lv_aload_n hx hb d_Mo_hand_123 rfl (lv_at hl 0 rfl) ?_
      refine rs_getR C hH hT h_v0 fk_11_39 tw_938 d_Mo_hand_124 (fun h55 => ?_)
      refine lv_iconst hx hb d_Mo_hand_127 ki_2 ?_
      obtain ⟨g56, hF⟩ := hF
      refine rs_iald C hH h55 g56 d_Mo_hand_128 ?_
      refine lv_iconst hx hb d_Mo_hand_129 ki_1 ?_
      refine lv_iadd hx hb d_Mo_hand_130 ?_
      refine lv_iload_n hx hb d_Mo_hand_131 rfl (lv_at hl 3 rfl) ?_
      refine lv_iadd hx hb d_Mo_hand_132 ?_
      obtain ⟨g57, hF⟩ := hF
      refine rs_iald C hH h54 g57 d_Mo_hand_133 ?_
      obtain ⟨g58, hF⟩ := hF
      refine rs_iast C hH hT hS h53 g58 d_Mo_hand_134 (fun σ59 H locs eσ59 hH hT hS => ?_)
      replace hF := hF σ59 eσ59
      obtain ⟨x60, ex60⟩ : ∃ z : Int32, z = x3 + (1 : Int32) := ⟨_, rfl⟩
      replace hF := hF x60 ex60
      refine lv_iinc hx hb d_Mo_hand_135 hl (k := 3) rfl (v := x60) (by rw [ki_1, ex60]) (by decide) (lv' := [(3, .int x60), (0, .ref (Bm + v0)), (1, .int x1), (2, .int x2)]) rfl (fun ls hl => ?_)
      refine lv_goto hx hb d_Mo_hand_138 (tgt := 99) rfl ?_
      exact hK99 v0 x1 x2 x60 σ59 _ _ _ h_v0 hH hT hS (lv_sub hl [1, 2, 3, 0] rfl) hF
set_option maxRecDepth 20000 in
theorem JB_Mo_hand_79 {p : Program} {l : Launch} {e : Env} {s : State} {m : MethodId} {args : Array Value} {below : List Frame} {meth : Method} {c : Code} {G : rs_G} {Bm : Nat} {S : rs_Shp} {Q : rs_Mem → Prop} (C : rs_C "RouteSpeakerModel" prog_12_method_39_code 4 none G p s m meth c args) (v0 : Nat) (x1 : Int32) (x2 : Int32) (w0 : Nat) (y1 : Int32) (y2 : Int32) (σ : rs_Mem) (H : Heap) (locs : List Loc) (ls : Array Slot) (h_v0 : rs_Ok S 11 v0) (h_w0 : rs_Ok S 20 w0) (hH : rs_H G Bm S σ H) (hT : rs_T S σ) (hS : va_S (rs_A Bm) s.heap H locs) (hl : lv_has ls 4 [(0, .ref (Bm + v0)), (1, .int x1), (2, .int x2)]) (hF : B_Mo_hand_79 S.2.2 Q v0 x1 x2 w0 y1 y2 σ) :
    W p l e { frames := 1, cells := 0, slots := 0, locals := 22 } s m args below meth c H locs 0 0 (MQ below (rs_Qv G Bm S Q) args s 0 0 (rs_A Bm)) (F0 m 79 ls [.int y2, .int y1, .ref (Bm + w0)]) := by
  have hx := C.1
  have hb := C.2.1
  unfold B_Mo_hand_79 at hF
  obtain ⟨g51, hF⟩ := hF
  refine rs_iast C hH hT hS h_w0 g51 d_Mo_hand_79 (fun σ52 H locs eσ52 hH hT hS => ?_)
  replace hF := hF σ52 eσ52
  refine lv_aload_n hx hb d_Mo_hand_80 rfl (lv_at hl 0 rfl) ?_
  refine rs_getR C hH hT h_v0 fk_11_26 tw_925 d_Mo_hand_81 (fun h53 => ?_)
  refine lv_iload_n hx hb d_Mo_hand_84 rfl (lv_at hl 2 rfl) ?_
  refine lv_aload_n hx hb d_Mo_hand_85 rfl (lv_at hl 0 rfl) ?_
  refine rs_getR C hH hT h_v0 fk_11_15 tw_914 d_Mo_hand_86 (fun h54 => ?_)
  refine lv_aload_n hx hb d_Mo_hand_89 rfl (lv_at hl 0 rfl) ?_
  refine rs_getR C hH hT h_v0 fk_11_39 tw_938 d_Mo_hand_90 (fun h55 => ?_)
  refine lv_iconst hx hb d_Mo_hand_93 ki_2 ?_
  obtain ⟨g56, hF⟩ := hF
  refine rs_iald C hH h55 g56 d_Mo_hand_94 ?_
  obtain ⟨g57, hF⟩ := hF
  refine rs_iald C hH h54 g57 d_Mo_hand_95 ?_
  obtain ⟨g58, hF⟩ := hF
  refine rs_iast C hH hT hS h53 g58 d_Mo_hand_96 (fun σ59 H locs eσ59 hH hT hS => ?_)
  replace hF := hF σ59 eσ59
  refine lv_iconst hx hb d_Mo_hand_97 ki_0 ?_
  refine lv_istore_n hx hb d_Mo_hand_98 rfl hl (by decide) (lv' := [(3, .int (0 : Int32)), (0, .ref (Bm + v0)), (1, .int x1), (2, .int x2)]) rfl (fun ls hl => ?_)
  obtain ⟨n, hF⟩ := hF
  exact JL_Mo_hand_99 C n v0 x1 x2 (0 : Int32) σ59 _ _ _ h_v0 hH hT hS (lv_sub hl [1, 2, 3, 0] rfl) hF
set_option maxRecDepth 20000 in
theorem JB_Mo_hand_58 {p : Program} {l : Launch} {e : Env} {s : State} {m : MethodId} {args : Array Value} {below : List Frame} {meth : Method} {c : Code} {G : rs_G} {Bm : Nat} {S : rs_Shp} {Q : rs_Mem → Prop} (C : rs_C "RouteSpeakerModel" prog_12_method_39_code 4 none G p s m meth c args) (v0 : Nat) (x1 : Int32) (x2 : Int32) (w0 : Nat) (y1 : Int32) (y2 : Int32) (σ : rs_Mem) (H : Heap) (locs : List Loc) (ls : Array Slot) (h_v0 : rs_Ok S 11 v0) (h_w0 : rs_Ok S 20 w0) (hH : rs_H G Bm S σ H) (hT : rs_T S σ) (hS : va_S (rs_A Bm) s.heap H locs) (hl : lv_has ls 4 [(0, .ref (Bm + v0)), (1, .int x1), (2, .int x2)]) (hF : B_Mo_hand_58 S.2.2 Q v0 x1 x2 w0 y1 y2 σ) :
    W p l e { frames := 1, cells := 0, slots := 0, locals := 22 } s m args below meth c H locs 0 0 (MQ below (rs_Qv G Bm S Q) args s 0 0 (rs_A Bm)) (F0 m 58 ls [.int y2, .int y1, .ref (Bm + w0)]) := by
  have hx := C.1
  have hb := C.2.1
  unfold B_Mo_hand_58 at hF
  obtain ⟨g51, hF⟩ := hF
  refine rs_iast C hH hT hS h_w0 g51 d_Mo_hand_58 (fun σ52 H locs eσ52 hH hT hS => ?_)
  replace hF := hF σ52 eσ52
  refine lv_aload_n hx hb d_Mo_hand_59 rfl (lv_at hl 0 rfl) ?_
  refine rs_getR C hH hT h_v0 fk_11_31 tw_930 d_Mo_hand_60 (fun h53 => ?_)
  refine lv_iload_n hx hb d_Mo_hand_63 rfl (lv_at hl 2 rfl) ?_
  refine lv_iload_n hx hb d_Mo_hand_64 rfl (lv_at hl 1 rfl) ?_
  refine lv_if_eq hx hb d_Mo_hand_65 (tgt := 78) rfl (fun hc => ?_) (fun hc => ?_)
  · replace hF := hF.1 hc
    refine lv_iconst hx hb d_Mo_hand_78 ki_0 ?_
    exact JB_Mo_hand_79 C v0 x1 x2 (rs_R σ52 v0 31) x2 (0 : Int32) σ52 _ _ _ h_v0 h53 hH hT hS (lv_sub hl [0, 1, 2] rfl) hF
  · replace hF := hF.2 hc
    refine lv_aload_n hx hb d_Mo_hand_68 rfl (lv_at hl 0 rfl) ?_
    refine lv_bipush hx hb d_Mo_hand_69 kb_9 ?_
    refine lv_iconst hx hb d_Mo_hand_71 ki_0 ?_
    refine rs_ci (rs_runV C hH hT hl (J_Mo_said l h_v0 hF) rc_Mo_said tw_1241 tw_1243 ts_73 h_v0 ⟨rfl, by decide, by decide⟩ rfl ⟨⟨rfl, rfl⟩, by decide, by decide, by decide⟩ (Nat.le_of_ble_eq_true rfl) rfl d_Mo_hand_72) hS (fun x55 σ54 H locs hH hT hS hF => ?_)
    refine lv_goto hx hb d_Mo_hand_75 (tgt := 79) rfl ?_
    exact JB_Mo_hand_79 C v0 x1 x2 (rs_R σ52 v0 31) x2 x55 σ54 _ _ _ h_v0 h53 hH hT hS (lv_sub hl [0, 1, 2] rfl) hF
abbrev y_Mo_hand : MethodName := ({ cls := "RouteSpeakerModel", name := "hand", desc := "(Z)V" } : Jvm.MethodName)
theorem rc_Mo_hand : rs_Cal y_Mo_hand prog_12_method_39_code 4 none 1 := ⟨tw_1240, tw_11, by decide, by decide, by decide +kernel⟩
set_option maxRecDepth 20000 in
theorem J_Mo_hand (l : Launch) {G : rs_G} {Bm : Nat} {S : rs_Shp} {v0 : Nat} {x1 : Int32} {σ : rs_Mem} {Q : rs_Mem → Prop} (h_v0 : rs_Ok S 11 v0) (hF : F_Mo_hand S.2.2 v0 x1 σ Q) :
    Met l y_Mo_hand (rs_ws y_Mo_hand prog_12_method_39_code 4 none) { frames := 1, cells := 0, slots := 0, locals := 22 } (rs_P G Bm S σ [.ref (Bm + v0), .int x1]) (rs_Qv G Bm S Q) 0 0 (rs_A Bm) := by
  refine rs_met (own := "RouteSpeakerModel") (by decide) rfl (Nat.le_of_ble_eq_true rfl) (fun p e s m below meth c ls C hl hH hT hS => ?_)
  replace hl : lv_has ls 4 [(0, .ref (Bm + v0)), (1, .int x1)] := hl
  have hx := C.1
  have hb := C.2.1
  unfold F_Mo_hand at hF
  refine lv_bipush hx hb d_Mo_hand_0 kb_60 ?_
  refine lv_istore_n hx hb d_Mo_hand_2 rfl hl (by decide) (lv' := [(2, .int (60 : Int32)), (0, .ref (Bm + v0)), (1, .int x1)]) rfl (fun ls hl => ?_)
  refine lv_aload_n hx hb d_Mo_hand_3 rfl (lv_at hl 1 rfl) ?_
  refine rs_getR C hH hT h_v0 fk_11_25 tw_924 d_Mo_hand_4 (fun h51 => ?_)
  refine lv_iload_n hx hb d_Mo_hand_7 rfl (lv_at hl 0 rfl) ?_
  refine lv_aload_n hx hb d_Mo_hand_8 rfl (lv_at hl 1 rfl) ?_
  refine lv_iconst hx hb d_Mo_hand_9 ki_1 ?_
  refine lv_iconst hx hb d_Mo_hand_10 ki_0 ?_
  refine rs_ci (rs_runV C hH hT hl (J_Mo_said l h_v0 hF) rc_Mo_said tw_1241 tw_1243 ts_73 h_v0 ⟨rfl, by decide, by decide⟩ rfl ⟨⟨rfl, rfl⟩, by decide, by decide, by decide⟩ (Nat.le_of_ble_eq_true rfl) rfl d_Mo_hand_11) hS (fun x53 σ52 H locs hH hT hS hF => ?_)
  obtain ⟨g54, hF⟩ := hF
  refine rs_iast C hH hT hS h51 g54 d_Mo_hand_14 (fun σ55 H locs eσ55 hH hT hS => ?_)
  replace hF := hF σ55 eσ55
  refine lv_aload_n hx hb d_Mo_hand_15 rfl (lv_at hl 1 rfl) ?_
  refine rs_getR C hH hT h_v0 fk_11_28 tw_927 d_Mo_hand_16 (fun h56 => ?_)
  refine lv_iload_n hx hb d_Mo_hand_19 rfl (lv_at hl 0 rfl) ?_
  refine lv_aload_n hx hb d_Mo_hand_20 rfl (lv_at hl 1 rfl) ?_
  refine lv_iconst hx hb d_Mo_hand_21 ki_3 ?_
  refine lv_iconst hx hb d_Mo_hand_22 ki_0 ?_
  refine rs_ci (rs_runV C hH hT hl (J_Mo_said l h_v0 hF) rc_Mo_said tw_1241 tw_1243 ts_73 h_v0 ⟨rfl, by decide, by decide⟩ rfl ⟨⟨rfl, rfl⟩, by decide, by decide, by decide⟩ (Nat.le_of_ble_eq_true rfl) rfl d_Mo_hand_23) hS (fun x58 σ57 H locs hH hT hS hF => ?_)
  obtain ⟨g59, hF⟩ := hF
  refine rs_iast C hH hT hS h56 g59 d_Mo_hand_26 (fun σ60 H locs eσ60 hH hT hS => ?_)
  replace hF := hF σ60 eσ60
  refine lv_aload_n hx hb d_Mo_hand_27 rfl (lv_at hl 1 rfl) ?_
  refine rs_getR C hH hT h_v0 fk_11_29 tw_928 d_Mo_hand_28 (fun h61 => ?_)
  refine lv_iload_n hx hb d_Mo_hand_31 rfl (lv_at hl 0 rfl) ?_
  refine lv_aload_n hx hb d_Mo_hand_32 rfl (lv_at hl 1 rfl) ?_
  refine lv_iconst hx hb d_Mo_hand_33 ki_4 ?_
  refine lv_iconst hx hb d_Mo_hand_34 ki_m1 ?_
  refine rs_ci (rs_runV C hH hT hl (J_Mo_said l h_v0 hF) rc_Mo_said tw_1241 tw_1243 ts_73 h_v0 ⟨rfl, by decide, by decide⟩ rfl ⟨⟨rfl, rfl⟩, by decide, by decide, by decide⟩ (Nat.le_of_ble_eq_true rfl) rfl d_Mo_hand_35) hS (fun x63 σ62 H locs hH hT hS hF => ?_)
  obtain ⟨g64, hF⟩ := hF
  refine rs_iast C hH hT hS h61 g64 d_Mo_hand_38 (fun σ65 H locs eσ65 hH hT hS => ?_)
  replace hF := hF σ65 eσ65
  refine lv_aload_n hx hb d_Mo_hand_39 rfl (lv_at hl 1 rfl) ?_
  refine rs_getR C hH hT h_v0 fk_11_30 tw_929 d_Mo_hand_40 (fun h66 => ?_)
  refine lv_iload_n hx hb d_Mo_hand_43 rfl (lv_at hl 0 rfl) ?_
  refine lv_iload_n hx hb d_Mo_hand_44 rfl (lv_at hl 2 rfl) ?_
  refine lv_if_eq hx hb d_Mo_hand_45 (tgt := 57) rfl (fun hc => ?_) (fun hc => ?_)
  · replace hF := hF.1 hc
    refine lv_iconst hx hb d_Mo_hand_57 ki_0 ?_
    exact JB_Mo_hand_58 C v0 x1 (60 : Int32) (rs_R σ65 v0 30) (60 : Int32) (0 : Int32) σ65 _ _ _ h_v0 h66 hH hT hS (lv_sub hl [1, 2, 0] rfl) hF
  · replace hF := hF.2 hc
    refine lv_aload_n hx hb d_Mo_hand_48 rfl (lv_at hl 1 rfl) ?_
    refine lv_iconst hx hb d_Mo_hand_49 ki_5 ?_
    refine lv_iconst hx hb d_Mo_hand_50 ki_0 ?_
    refine rs_ci (rs_runV C hH hT hl (J_Mo_said l h_v0 hF) rc_Mo_said tw_1241 tw_1243 ts_73 h_v0 ⟨rfl, by decide, by decide⟩ rfl ⟨⟨rfl, rfl⟩, by decide, by decide, by decide⟩ (Nat.le_of_ble_eq_true rfl) rfl d_Mo_hand_51) hS (fun x68 σ67 H locs hH hT hS hF => ?_)
    refine lv_goto hx hb d_Mo_hand_54 (tgt := 58) rfl ?_
    exact JB_Mo_hand_58 C v0 x1 (60 : Int32) (rs_R σ65 v0 30) (60 : Int32) x68 σ67 _ _ _ h_v0 h66 hH hT hS (lv_sub hl [1, 2, 0] rfl) hF
