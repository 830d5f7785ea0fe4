/-! RouteSpeakerModel.isInternal(I)Z -/
theorem d_Mo_isInternal_0 : decode prog_12_method_31_code 0 = .ok (.aload_n 0, 1) := by decide +kernel
theorem d_Mo_isInternal_1 : decode prog_12_method_31_code 1 = .ok (.getfield 7, 3) := by decide +kernel
theorem d_Mo_isInternal_4 : decode prog_12_method_31_code 4 = .ok (.iload_n 1, 1) := by decide +kernel
theorem d_Mo_isInternal_5 : decode prog_12_method_31_code 5 = .ok (.iaload, 1) := by decide +kernel
theorem d_Mo_isInternal_6 : decode prog_12_method_31_code 6 = .ok (.ifCond .eq (7), 3) := by decide +kernel
theorem d_Mo_isInternal_9 : decode prog_12_method_31_code 9 = .ok (.iconst 1, 1) := by decide +kernel
theorem d_Mo_isInternal_10 : decode prog_12_method_31_code 10 = .ok (.goto (4), 3) := by decide +kernel
theorem d_Mo_isInternal_13 : decode prog_12_method_31_code 13 = .ok (.iconst 0, 1) := by decide +kernel
theorem d_Mo_isInternal_14 : decode prog_12_method_31_code 14 = .ok (.ireturn, 1) := by decide +kernel
def F_Mo_isInternal (N : Nat → Nat) (v0 : Nat) (x1 : Int32) (σ : rs_Mem) (Q : Int32 → rs_Mem → Prop) : Prop :=
  (vp_in x1 (N (rs_R σ v0 1)) ∧ (((rs_I σ (rs_R σ v0 1) x1.toNatClampNeg) = 0 → (Q (0 : Int32) σ)) ∧ (¬ ((rs_I σ (rs_R σ v0 1) x1.toNatClampNeg) = 0) → (Q (1 : Int32) σ))))
abbrev y_Mo_isInternal : MethodName := ({ cls := "RouteSpeakerModel", name := "isInternal", desc := "(I)Z" } : Jvm.MethodName)
theorem rc_Mo_isInternal : rs_Cal y_Mo_isInternal prog_12_method_31_code 2 (some .boolean) 1 := ⟨tw_1095, tw_11, by decide, by decide, by decide +kernel⟩
set_option maxRecDepth 20000 in
theorem J_Mo_isInternal (l : Launch) {G : rs_G} {Bm : Nat} {S : rs_Shp} {v0 : Nat} {x1 : Int32} {σ : rs_Mem} {Q : Int32 → rs_Mem → Prop} (h_v0 : rs_Ok S 11 v0) (hF : F_Mo_isInternal S.2.2 v0 x1 σ Q) :
    Met l y_Mo_isInternal (rs_ws y_Mo_isInternal prog_12_method_31_code 2 (some .boolean)) { frames := 0, cells := 0, slots := 0, locals := 0 } (rs_P G Bm S σ [.ref (Bm + v0), .int x1]) (rs_Qi G Bm S Q) 0 0 (rs_A Bm) := by
  refine rs_met (own := "RouteSpeakerModel") (by decide) rfl (Nat.le_of_ble_eq_true rfl) (fun p e s m below meth c ls C hl hH hT hS => ?_)
  replace hl : lv_has ls 2 [(0, .ref (Bm + v0)), (1, .int x1)] := hl
  have hx := C.1
  have hb := C.2.1
  unfold F_Mo_isInternal at hF
  refine lv_aload_n hx hb d_Mo_isInternal_0 rfl (lv_at hl 0 rfl) ?_
  refine rs_getR C hH hT h_v0 fk_11_1 tw_900 d_Mo_isInternal_1 (fun h51 => ?_)
  refine lv_iload_n hx hb d_Mo_isInternal_4 rfl (lv_at hl 1 rfl) ?_
  obtain ⟨g52, hF⟩ := hF
  refine rs_iald C hH h51 g52 d_Mo_isInternal_5 ?_
  refine lv_if_eq hx hb d_Mo_isInternal_6 (tgt := 13) rfl (fun hc => ?_) (fun hc => ?_)
  · replace hF := hF.1 hc
    refine lv_iconst hx hb d_Mo_isInternal_13 ki_0 ?_
    exact rs_zret C hH hT hS (by decide) hF d_Mo_isInternal_14
  · replace hF := hF.2 hc
    refine lv_iconst hx hb d_Mo_isInternal_9 ki_1 ?_
    refine lv_goto hx hb d_Mo_isInternal_10 (tgt := 14) rfl ?_
    exact rs_zret C hH hT hS (by decide) hF d_Mo_isInternal_14
/-! RouteSpeakerModel.valued(II)I -/
theorem d_Mo_valued_0 : decode prog_12_method_46_code 0 = .ok (.iload_n 1, 1) := by decide +kernel
theorem d_Mo_valued_1 : decode prog_12_method_46_code 1 = .ok (.iconst 4, 1) := by decide +kernel
theorem d_Mo_valued_2 : decode prog_12_method_46_code 2 = .ok (.if_icmp .ne (6), 3) := by decide +kernel
theorem d_Mo_valued_5 : decode prog_12_method_46_code 5 = .ok (.bipush (100), 2) := by decide +kernel
theorem d_Mo_valued_7 : decode prog_12_method_46_code 7 = .ok (.ireturn, 1) := by decide +kernel
theorem d_Mo_valued_8 : decode prog_12_method_46_code 8 = .ok (.iconst 3, 1) := by decide +kernel
theorem d_Mo_valued_9 : decode prog_12_method_46_code 9 = .ok (.iload_n 1, 1) := by decide +kernel
theorem d_Mo_valued_10 : decode prog_12_method_46_code 10 = .ok (.imul, 1) := by decide +kernel
theorem d_Mo_valued_11 : decode prog_12_method_46_code 11 = .ok (.istore_n 3, 1) := by decide +kernel
theorem d_Mo_valued_12 : decode prog_12_method_46_code 12 = .ok (.iload_n 3, 1) := by decide +kernel
theorem d_Mo_valued_13 : decode prog_12_method_46_code 13 = .ok (.iconst 3, 1) := by decide +kernel
theorem d_Mo_valued_14 : decode prog_12_method_46_code 14 = .ok (.iload_n 1, 1) := by decide +kernel
theorem d_Mo_valued_15 : decode prog_12_method_46_code 15 = .ok (.imul, 1) := by decide +kernel
theorem d_Mo_valued_16 : decode prog_12_method_46_code 16 = .ok (.aload_n 0, 1) := by decide +kernel
theorem d_Mo_valued_17 : decode prog_12_method_46_code 17 = .ok (.getfield 40, 3) := by decide +kernel
theorem d_Mo_valued_20 : decode prog_12_method_46_code 20 = .ok (.iload_n 1, 1) := by decide +kernel
theorem d_Mo_valued_21 : decode prog_12_method_46_code 21 = .ok (.iaload, 1) := by decide +kernel
theorem d_Mo_valued_22 : decode prog_12_method_46_code 22 = .ok (.iadd, 1) := by decide +kernel
theorem d_Mo_valued_23 : decode prog_12_method_46_code 23 = .ok (.if_icmp .ge (46), 3) := by decide +kernel
theorem d_Mo_valued_26 : decode prog_12_method_46_code 26 = .ok (.aload_n 0, 1) := by decide +kernel
theorem d_Mo_valued_27 : decode prog_12_method_46_code 27 = .ok (.getfield 67, 3) := by decide +kernel
theorem d_Mo_valued_30 : decode prog_12_method_46_code 30 = .ok (.iload_n 2, 1) := by decide +kernel
theorem d_Mo_valued_31 : decode prog_12_method_46_code 31 = .ok (.iaload, 1) := by decide +kernel
theorem d_Mo_valued_32 : decode prog_12_method_46_code 32 = .ok (.aload_n 0, 1) := by decide +kernel
theorem d_Mo_valued_33 : decode prog_12_method_46_code 33 = .ok (.getfield 70, 3) := by decide +kernel
theorem d_Mo_valued_36 : decode prog_12_method_46_code 36 = .ok (.iload_n 2, 1) := by decide +kernel
theorem d_Mo_valued_37 : decode prog_12_method_46_code 37 = .ok (.iaload, 1) := by decide +kernel
theorem d_Mo_valued_38 : decode prog_12_method_46_code 38 = .ok (.aload_n 0, 1) := by decide +kernel
theorem d_Mo_valued_39 : decode prog_12_method_46_code 39 = .ok (.getfield 43, 3) := by decide +kernel
theorem d_Mo_valued_42 : decode prog_12_method_46_code 42 = .ok (.iload_n 3, 1) := by decide +kernel
theorem d_Mo_valued_43 : decode prog_12_method_46_code 43 = .ok (.iaload, 1) := by decide +kernel
theorem d_Mo_valued_44 : decode prog_12_method_46_code 44 = .ok (.aload_n 0, 1) := by decide +kernel
theorem d_Mo_valued_45 : decode prog_12_method_46_code 45 = .ok (.getfield 46, 3) := by decide +kernel
theorem d_Mo_valued_48 : decode prog_12_method_46_code 48 = .ok (.iload_n 3, 1) := by decide +kernel
theorem d_Mo_valued_49 : decode prog_12_method_46_code 49 = .ok (.iaload, 1) := by decide +kernel
theorem d_Mo_valued_50 : decode prog_12_method_46_code 50 = .ok (.invokestatic 251, 3) := by decide +kernel
theorem d_Mo_valued_53 : decode prog_12_method_46_code 53 = .ok (.ifCond .eq (10), 3) := by decide +kernel
theorem d_Mo_valued_56 : decode prog_12_method_46_code 56 = .ok (.aload_n 0, 1) := by decide +kernel
theorem d_Mo_valued_57 : decode prog_12_method_46_code 57 = .ok (.getfield 49, 3) := by decide +kernel
theorem d_Mo_valued_60 : decode prog_12_method_46_code 60 = .ok (.iload_n 3, 1) := by decide +kernel
theorem d_Mo_valued_61 : decode prog_12_method_46_code 61 = .ok (.iaload, 1) := by decide +kernel
theorem d_Mo_valued_62 : decode prog_12_method_46_code 62 = .ok (.ireturn, 1) := by decide +kernel
theorem d_Mo_valued_63 : decode prog_12_method_46_code 63 = .ok (.iinc 3 (1), 3) := by decide +kernel
theorem d_Mo_valued_66 : decode prog_12_method_46_code 66 = .ok (.goto (-54), 3) := by decide +kernel
theorem d_Mo_valued_69 : decode prog_12_method_46_code 69 = .ok (.aload_n 0, 1) := by decide +kernel
theorem d_Mo_valued_70 : decode prog_12_method_46_code 70 = .ok (.iload_n 1, 1) := by decide +kernel
theorem d_Mo_valued_71 : decode prog_12_method_46_code 71 = .ok (.invokevirtual 225, 3) := by decide +kernel
theorem d_Mo_valued_74 : decode prog_12_method_46_code 74 = .ok (.ifCond .eq (17), 3) := by decide +kernel
theorem d_Mo_valued_77 : decode prog_12_method_46_code 77 = .ok (.aload_n 0, 1) := by decide +kernel
theorem d_Mo_valued_78 : decode prog_12_method_46_code 78 = .ok (.getfield 92, 3) := by decide +kernel
theorem d_Mo_valued_81 : decode prog_12_method_46_code 81 = .ok (.bipush (12), 2) := by decide +kernel
theorem d_Mo_valued_83 : decode prog_12_method_46_code 83 = .ok (.iload_n 1, 1) := by decide +kernel
theorem d_Mo_valued_84 : decode prog_12_method_46_code 84 = .ok (.imul, 1) := by decide +kernel
theorem d_Mo_valued_85 : decode prog_12_method_46_code 85 = .ok (.iload_n 2, 1) := by decide +kernel
theorem d_Mo_valued_86 : decode prog_12_method_46_code 86 = .ok (.iadd, 1) := by decide +kernel
theorem d_Mo_valued_87 : decode prog_12_method_46_code 87 = .ok (.iaload, 1) := by decide +kernel
theorem d_Mo_valued_88 : decode prog_12_method_46_code 88 = .ok (.goto (5), 3) := by decide +kernel
theorem d_Mo_valued_91 : decode prog_12_method_46_code 91 = .ok (.bipush (100), 2) := by decide +kernel
theorem d_Mo_valued_93 : decode prog_12_method_46_code 93 = .ok (.ireturn, 1) := by decide +kernel
def G_Mo_valued_12 (N : Nat → Nat) (Q : Int32 → rs_Mem → Prop) (K12 : Nat → Int32 → Int32 → Int32 → rs_Mem → Prop) (v0 : Nat) (x1 : Int32) (x2 : Int32) (x3 : Int32) (σ : rs_Mem) : Prop :=
  (vp_in x1 (N (rs_R σ v0 11)) ∧ (((((3 : Int32) * x1) + (rs_I σ (rs_R σ v0 11) x1.toNatClampNeg)) ≤ x3 → (F_Mo_isInternal N v0 x1 σ (fun x54 σ53 => ((x54 = 0 → (Q (100 : Int32) σ53)) ∧ (¬ (x54 = 0) → (vp_in (((12 : Int32) * x1) + x2) (N (rs_R σ53 v0 30)) ∧ (Q (rs_I σ53 (rs_R σ53 v0 30) (((12 : Int32) * x1) + x2).toNatClampNeg) σ53))))))) ∧ (¬ ((((3 : Int32) * x1) + (rs_I σ (rs_R σ v0 11) x1.toNatClampNeg)) ≤ x3) → (vp_in x2 (N (rs_R σ v0 22)) ∧ (vp_in x2 (N (rs_R σ v0 23)) ∧ (vp_in x3 (N (rs_R σ v0 12)) ∧ (vp_in x3 (N (rs_R σ v0 13)) ∧ (F_Mo_isWithin N (rs_I σ (rs_R σ v0 22) x2.toNatClampNeg) (rs_I σ (rs_R σ v0 23) x2.toNatClampNeg) (rs_I σ (rs_R σ v0 12) x3.toNatClampNeg) (rs_I σ (rs_R σ v0 13) x3.toNatClampNeg) σ (fun x62 σ61 => ((x62 = 0 → (∀ x63 : Int32, x63 = x3 + (1 : Int32) → (K12 v0 x1 x2 x63 σ61))) ∧ (¬ (x62 = 0) → (vp_in x3 (N (rs_R σ61 v0 14)) ∧ (Q (rs_I σ61 (rs_R σ61 v0 14) x3.toNatClampNeg) σ61)))))))))))))
noncomputable def L_Mo_valued_12 (N : Nat → Nat) (Q : Int32 → rs_Mem → Prop) (n : Nat) : Nat → Int32 → Int32 → Int32 → rs_Mem → Prop := Nat.rec (motive := fun _ => Nat → Int32 → Int32 → Int32 → rs_Mem → Prop) (fun _ _ _ _ _ => False) (fun _ K => G_Mo_valued_12 N Q K) n
def F_Mo_valued (N : Nat → Nat) (v0 : Nat) (x1 : Int32) (x2 : Int32) (σ : rs_Mem) (Q : Int32 → rs_Mem → Prop) : Prop :=
  ((¬ (x1 = (4 : Int32)) → (∀ x51 : Int32, x51 = ((3 : Int32) * x1) → (∃ n : Nat, L_Mo_valued_12 N Q n v0 x1 x2 x51 σ))) ∧ (x1 = (4 : Int32) → (Q (100 : Int32) σ)))
set_option maxRecDepth 20000 in
theorem JL_Mo_valued_12 {p : Program} {l : Launch} {e : Env} {s : State} {m : MethodId} {args : Array Value} {below : List Frame} {meth : Method} {c : Code} {G : rs_G} {Bm : Nat} {S : rs_Shp} {Q : Int32 → rs_Mem → Prop} (C : rs_C "RouteSpeakerModel" prog_12_method_46_code 4 (some .int) G p s m meth c args) : ∀ n : Nat, ∀ (v0 : Nat) (x1 : Int32) (x2 : Int32) (x3 : Int32) (σ : rs_Mem) (H : Heap) (locs : List Loc) (ls : Array Slot), rs_Ok S 11 v0 → rs_H G Bm S σ H → rs_T S σ → va_S (rs_A Bm) s.heap H locs → lv_has ls 4 [(0, .ref (Bm + v0)), (1, .int x1), (2, .int x2), (3, .int x3)] → (L_Mo_valued_12 S.2.2 Q n) v0 x1 x2 x3 σ → W p l e { frames := 2, cells := 0, slots := 0, locals := 43 } s m args below meth c H locs 0 0 (MQ below (rs_Qi G Bm S Q) args s 0 0 (rs_A Bm)) (F0 m 12 ls []) := by
  have hx := C.1
  have hb := C.2.1
  intro n
  induction n with
  | zero => intros; rename_i hF; exact hF.elim
  | succ n hK12 =>
    intro v0 x1 x2 x3 σ H locs ls h_v0 hH hT hS hl hF
    replace hF : G_Mo_valued_12 S.2.2 Q (L_Mo_valued_12 S.2.2 Q n) v0 x1 x2 x3 σ := hF
    unfold G_Mo_valued_12 at hF
    refine lv_iload_n hx hb d_Mo_valued_12 rfl (lv_at hl 3 rfl) ?_
    refine lv_iconst hx hb d_Mo_valued_13 ki_3 ?_
    refine lv_iload_n hx hb d_Mo_valued_14 rfl (lv_at hl 1 rfl) ?_
    refine lv_imul hx hb d_Mo_valued_15 ?_
    refine lv_aload_n hx hb d_Mo_valued_16 rfl (lv_at hl 0 rfl) ?_
    refine rs_getR C hH hT h_v0 fk_11_11 tw_910 d_Mo_valued_17 (fun h51 => ?_)
    refine lv_iload_n hx hb d_Mo_valued_20 rfl (lv_at hl 1 rfl) ?_
    obtain ⟨g52, hF⟩ := hF
    refine rs_iald C hH h51 g52 d_Mo_valued_21 ?_
    refine lv_iadd hx hb d_Mo_valued_22 ?_
    refine lv_icmp_ge hx hb d_Mo_valued_23 (tgt := 69) rfl (fun hc => ?_) (fun hc => ?_)
    · replace hF := hF.1 hc
      refine lv_aload_n hx hb d_Mo_valued_69 rfl (lv_at hl 0 rfl) ?_
      refine lv_iload_n hx hb d_Mo_valued_70 rfl (lv_at hl 1 rfl) ?_
      refine rs_ci (rs_runV C hH hT hl (J_Mo_isInternal l h_v0 hF) rc_Mo_isInternal tw_1092 tw_1094 ts_46 h_v0 ⟨rfl, by decide, by decide⟩ rfl ⟨⟨rfl, rfl⟩, by decide, by decide, by decide⟩ (Nat.le_of_ble_eq_true rfl) rfl d_Mo_valued_71) hS (fun x54 σ53 H locs hH hT hS hF => ?_)
      refine lv_if_eq hx hb d_Mo_valued_74 (tgt := 91) rfl (fun hc => ?_) (fun hc => ?_)
      · replace hF := hF.1 hc
        refine lv_bipush hx hb d_Mo_valued_91 kb_100 ?_
        exact rs_iret C hH hT hS hF d_Mo_valued_93
      · replace hF := hF.2 hc
        refine lv_aload_n hx hb d_Mo_valued_77 rfl (lv_at hl 0 rfl) ?_
        refine rs_getR C hH hT h_v0 fk_11_30 tw_929 d_Mo_valued_78 (fun h55 => ?_)
        refine lv_bipush hx hb d_Mo_valued_81 kb_12 ?_
        refine lv_iload_n hx hb d_Mo_valued_83 rfl (lv_at hl 1 rfl) ?_
        refine lv_imul hx hb d_Mo_valued_84 ?_
        refine lv_iload_n hx hb d_Mo_valued_85 rfl (lv_at hl 2 rfl) ?_
        refine lv_iadd hx hb d_Mo_valued_86 ?_
        obtain ⟨g56, hF⟩ := hF
        refine rs_iald C hH h55 g56 d_Mo_valued_87 ?_
        refine lv_goto hx hb d_Mo_valued_88 (tgt := 93) rfl ?_
        exact rs_iret C hH hT hS hF d_Mo_valued_93
    · replace hF := hF.2 hc
      refine lv_aload_n hx hb d_Mo_valued_26 rfl (lv_at hl 0 rfl) ?_
      refine rs_getR C hH hT h_v0 fk_11_22 tw_921 d_Mo_valued_27 (fun h53 => ?_)
      refine lv_iload_n hx hb d_Mo_valued_30 rfl (lv_at hl 2 rfl) ?_
      obtain ⟨g54, hF⟩ := hF
      refine rs_iald C hH h53 g54 d_Mo_valued_31 ?_
      refine lv_aload_n hx hb d_Mo_valued_32 rfl (lv_at hl 0 rfl) ?_
      refine rs_getR C hH hT h_v0 fk_11_23 tw_922 d_Mo_valued_33 (fun h55 => ?_)
      refine lv_iload_n hx hb d_Mo_valued_36 rfl (lv_at hl 2 rfl) ?_
      obtain ⟨g56, hF⟩ := hF
      refine rs_iald C hH h55 g56 d_Mo_valued_37 ?_
      refine lv_aload_n hx hb d_Mo_valued_38 rfl (lv_at hl 0 rfl) ?_
      refine rs_getR C hH hT h_v0 fk_11_12 tw_911 d_Mo_valued_39 (fun h57 => ?_)
      refine lv_iload_n hx hb d_Mo_valued_42 rfl (lv_at hl 3 rfl) ?_
      obtain ⟨g58, hF⟩ := hF
      refine rs_iald C hH h57 g58 d_Mo_valued_43 ?_
      refine lv_aload_n hx hb d_Mo_valued_44 rfl (lv_at hl 0 rfl) ?_
      refine rs_getR C hH hT h_v0 fk_11_13 tw_912 d_Mo_valued_45 (fun h59 => ?_)
      refine lv_iload_n hx hb d_Mo_valued_48 rfl (lv_at hl 3 rfl) ?_
      obtain ⟨g60, hF⟩ := hF
      refine rs_iald C hH h59 g60 d_Mo_valued_49 ?_
      refine rs_ci (rs_runS C hH hT hl (J_Mo_isWithin l hF) rc_Mo_isWithin tw_1061 tw_1062 rfl ⟨⟨rfl, rfl⟩, by decide, by decide, by decide⟩ (Nat.le_of_ble_eq_true rfl) rfl d_Mo_valued_50) hS (fun x62 σ61 H locs hH hT hS hF => ?_)
      refine lv_if_eq hx hb d_Mo_valued_53 (tgt := 63) rfl (fun hc => ?_) (fun hc => ?_)
      · replace hF := hF.1 hc
        obtain ⟨x63, ex63⟩ : ∃ z : Int32, z = x3 + (1 : Int32) := ⟨_, rfl⟩
        replace hF := hF x63 ex63
        refine lv_iinc hx hb d_Mo_valued_63 hl (k := 3) rfl (v := x63) (by rw [ki_1, ex63]) (by decide) (lv' := [(3, .int x63), (0, .ref (Bm + v0)), (1, .int x1), (2, .int x2)]) rfl (fun ls hl => ?_)
        refine lv_goto hx hb d_Mo_valued_66 (tgt := 12) rfl ?_
        exact hK12 v0 x1 x2 x63 σ61 _ _ _ h_v0 hH hT hS (lv_sub hl [1, 2, 3, 0] rfl) hF
      · replace hF := hF.2 hc
        refine lv_aload_n hx hb d_Mo_valued_56 rfl (lv_at hl 0 rfl) ?_
        refine rs_getR C hH hT h_v0 fk_11_14 tw_913 d_Mo_valued_57 (fun h63 => ?_)
        refine lv_iload_n hx hb d_Mo_valued_60 rfl (lv_at hl 3 rfl) ?_
        obtain ⟨g64, hF⟩ := hF
        refine rs_iald C hH h63 g64 d_Mo_valued_61 ?_
        exact rs_iret C hH hT hS hF d_Mo_valued_62
abbrev y_Mo_valued : MethodName := ({ cls := "RouteSpeakerModel", name := "valued", desc := "(II)I" } : Jvm.MethodName)
theorem rc_Mo_valued : rs_Cal y_Mo_valued prog_12_method_46_code 4 (some .int) 2 := ⟨tw_1091, tw_11, by decide, by decide, by decide +kernel⟩
set_option maxRecDepth 20000 in
theorem J_Mo_valued (l : Launch) {G : rs_G} {Bm : Nat} {S : rs_Shp} {v0 : Nat} {x1 : Int32} {x2 : Int32} {σ : rs_Mem} {Q : Int32 → rs_Mem → Prop} (h_v0 : rs_Ok S 11 v0) (hF : F_Mo_valued S.2.2 v0 x1 x2 σ Q) :
    Met l y_Mo_valued (rs_ws y_Mo_valued prog_12_method_46_code 4 (some .int)) { frames := 2, cells := 0, slots := 0, locals := 43 } (rs_P G Bm S σ [.ref (Bm + v0), .int x1, .int x2]) (rs_Qi G Bm S Q) 0 0 (rs_A Bm) := by
  refine rs_met (own := "RouteSpeakerModel") (by decide) rfl (Nat.le_of_ble_eq_true rfl) (fun p e s m below meth c ls C hl hH hT hS => ?_)
  replace hl : lv_has ls 4 [(0, .ref (Bm + v0)), (1, .int x1), (2, .int x2)] := hl
  have hx := C.1
  have hb := C.2.1
  unfold F_Mo_valued at hF
  refine lv_iload_n hx hb d_Mo_valued_0 rfl (lv_at hl 1 rfl) ?_
  refine lv_iconst hx hb d_Mo_valued_1 ki_4 ?_
  refine lv_icmp_ne hx hb d_Mo_valued_2 (tgt := 8) rfl (fun hc => ?_) (fun hc => ?_)
  · replace hF := hF.1 hc
    refine lv_iconst hx hb d_Mo_valued_8 ki_3 ?_
    refine lv_iload_n hx hb d_Mo_valued_9 rfl (lv_at hl 1 rfl) ?_
    refine lv_imul hx hb d_Mo_valued_10 ?_
    refine lv_topi (fun x51 ex51 => ?_)
    replace hF := hF x51 ex51
    refine lv_istore_n hx hb d_Mo_valued_11 rfl hl (by decide) (lv' := [(3, .int x51), (0, .ref (Bm + v0)), (1, .int x1), (2, .int x2)]) rfl (fun ls hl => ?_)
    obtain ⟨n, hF⟩ := hF
    exact JL_Mo_valued_12 C n v0 x1 x2 x51 σ _ _ _ h_v0 hH hT hS (lv_sub hl [1, 2, 3, 0] rfl) hF
  · replace hF := hF.2 hc
    refine lv_bipush hx hb d_Mo_valued_5 kb_100 ?_
    exact rs_iret C hH hT hS hF d_Mo_valued_7
/-! RouteSpeakerModel.worth(III)I -/
theorem d_Mo_worth_0 : decode prog_12_method_48_code 0 = .ok (.bipush (12), 2) := by decide +kernel
theorem d_Mo_worth_2 : decode prog_12_method_48_code 2 = .ok (.iload_n 2, 1) := by decide +kernel
theorem d_Mo_worth_3 : decode prog_12_method_48_code 3 = .ok (.imul, 1) := by decide +kernel
theorem d_Mo_worth_4 : decode prog_12_method_48_code 4 = .ok (.iload_n 3, 1) := by decide +kernel
theorem d_Mo_worth_5 : decode prog_12_method_48_code 5 = .ok (.iadd, 1) := by decide +kernel
theorem d_Mo_worth_6 : decode prog_12_method_48_code 6 = .ok (.istore 4, 2) := by decide +kernel
theorem d_Mo_worth_8 : decode prog_12_method_48_code 8 = .ok (.iload_n 1, 1) := by decide +kernel
theorem d_Mo_worth_9 : decode prog_12_method_48_code 9 = .ok (.ifCond .ne (11), 3) := by decide +kernel
theorem d_Mo_worth_12 : decode prog_12_method_48_code 12 = .ok (.aload_n 0, 1) := by decide +kernel
theorem d_Mo_worth_13 : decode prog_12_method_48_code 13 = .ok (.iload_n 2, 1) := by decide +kernel
theorem d_Mo_worth_14 : decode prog_12_method_48_code 14 = .ok (.iload_n 3, 1) := by decide +kernel
theorem d_Mo_worth_15 : decode prog_12_method_48_code 15 = .ok (.invokevirtual 255, 3) := by decide +kernel
theorem d_Mo_worth_18 : decode prog_12_method_48_code 18 = .ok (.ineg, 1) := by decide +kernel
theorem d_Mo_worth_19 : decode prog_12_method_48_code 19 = .ok (.ireturn, 1) := by decide +kernel
theorem d_Mo_worth_20 : decode prog_12_method_48_code 20 = .ok (.iload_n 1, 1) := by decide +kernel
theorem d_Mo_worth_21 : decode prog_12_method_48_code 21 = .ok (.iconst 1, 1) := by decide +kernel
theorem d_Mo_worth_22 : decode prog_12_method_48_code 22 = .ok (.if_icmp .ne (11), 3) := by decide +kernel
theorem d_Mo_worth_25 : decode prog_12_method_48_code 25 = .ok (.aload_n 0, 1) := by decide +kernel
theorem d_Mo_worth_26 : decode prog_12_method_48_code 26 = .ok (.getfield 80, 3) := by decide +kernel
theorem d_Mo_worth_29 : decode prog_12_method_48_code 29 = .ok (.iload 4, 2) := by decide +kernel
theorem d_Mo_worth_31 : decode prog_12_method_48_code 31 = .ok (.iaload, 1) := by decide +kernel
theorem d_Mo_worth_32 : decode prog_12_method_48_code 32 = .ok (.ireturn, 1) := by decide +kernel
theorem d_Mo_worth_33 : decode prog_12_method_48_code 33 = .ok (.iload_n 1, 1) := by decide +kernel
theorem d_Mo_worth_34 : decode prog_12_method_48_code 34 = .ok (.iconst 2, 1) := by decide +kernel
theorem d_Mo_worth_35 : decode prog_12_method_48_code 35 = .ok (.if_icmp .ne (11), 3) := by decide +kernel
theorem d_Mo_worth_38 : decode prog_12_method_48_code 38 = .ok (.aload_n 0, 1) := by decide +kernel
theorem d_Mo_worth_39 : decode prog_12_method_48_code 39 = .ok (.getfield 77, 3) := by decide +kernel
theorem d_Mo_worth_42 : decode prog_12_method_48_code 42 = .ok (.iload 4, 2) := by decide +kernel
theorem d_Mo_worth_44 : decode prog_12_method_48_code 44 = .ok (.iaload, 1) := by decide +kernel
theorem d_Mo_worth_45 : decode prog_12_method_48_code 45 = .ok (.ireturn, 1) := by decide +kernel
theorem d_Mo_worth_46 : decode prog_12_method_48_code 46 = .ok (.iload_n 1, 1) := by decide +kernel
theorem d_Mo_worth_47 : decode prog_12_method_48_code 47 = .ok (.iconst 4, 1) := by decide +kernel
theorem d_Mo_worth_48 : decode prog_12_method_48_code 48 = .ok (.if_icmp .ne (22), 3) := by decide +kernel
theorem d_Mo_worth_51 : decode prog_12_method_48_code 51 = .ok (.iload_n 2, 1) := by decide +kernel
theorem d_Mo_worth_52 : decode prog_12_method_48_code 52 = .ok (.iconst 4, 1) := by decide +kernel
theorem d_Mo_worth_53 : decode prog_12_method_48_code 53 = .ok (.if_icmp .eq (11), 3) := by decide +kernel
theorem d_Mo_worth_56 : decode prog_12_method_48_code 56 = .ok (.aload_n 0, 1) := by decide +kernel
theorem d_Mo_worth_57 : decode prog_12_method_48_code 57 = .ok (.iload_n 2, 1) := by decide +kernel
theorem d_Mo_worth_58 : decode prog_12_method_48_code 58 = .ok (.invokevirtual 225, 3) := by decide +kernel
theorem d_Mo_worth_61 : decode prog_12_method_48_code 61 = .ok (.ifCond .ne (7), 3) := by decide +kernel
theorem d_Mo_worth_64 : decode prog_12_method_48_code 64 = .ok (.iconst 0, 1) := by decide +kernel
theorem d_Mo_worth_65 : decode prog_12_method_48_code 65 = .ok (.goto (4), 3) := by decide +kernel
theorem d_Mo_worth_68 : decode prog_12_method_48_code 68 = .ok (.iconst 1, 1) := by decide +kernel
theorem d_Mo_worth_69 : decode prog_12_method_48_code 69 = .ok (.ireturn, 1) := by decide +kernel
theorem d_Mo_worth_70 : decode prog_12_method_48_code 70 = .ok (.iload_n 1, 1) := by decide +kernel
theorem d_Mo_worth_71 : decode prog_12_method_48_code 71 = .ok (.iconst 5, 1) := by decide +kernel
theorem d_Mo_worth_72 : decode prog_12_method_48_code 72 = .ok (.if_icmp .ne (40), 3) := by decide +kernel
theorem d_Mo_worth_75 : decode prog_12_method_48_code 75 = .ok (.aload_n 0, 1) := by decide +kernel
theorem d_Mo_worth_76 : decode prog_12_method_48_code 76 = .ok (.getfield 95, 3) := by decide +kernel
theorem d_Mo_worth_79 : decode prog_12_method_48_code 79 = .ok (.iload 4, 2) := by decide +kernel
theorem d_Mo_worth_81 : decode prog_12_method_48_code 81 = .ok (.iaload, 1) := by decide +kernel
theorem d_Mo_worth_82 : decode prog_12_method_48_code 82 = .ok (.ifCond .le (13), 3) := by decide +kernel
theorem d_Mo_worth_85 : decode prog_12_method_48_code 85 = .ok (.aload_n 0, 1) := by decide +kernel
theorem d_Mo_worth_86 : decode prog_12_method_48_code 86 = .ok (.getfield 95, 3) := by decide +kernel
theorem d_Mo_worth_89 : decode prog_12_method_48_code 89 = .ok (.iload 4, 2) := by decide +kernel
theorem d_Mo_worth_91 : decode prog_12_method_48_code 91 = .ok (.iaload, 1) := by decide +kernel
theorem d_Mo_worth_92 : decode prog_12_method_48_code 92 = .ok (.goto (19), 3) := by decide +kernel
theorem d_Mo_worth_95 : decode prog_12_method_48_code 95 = .ok (.iload_n 2, 1) := by decide +kernel
theorem d_Mo_worth_96 : decode prog_12_method_48_code 96 = .ok (.iconst 4, 1) := by decide +kernel
theorem d_Mo_worth_97 : decode prog_12_method_48_code 97 = .ok (.if_icmp .ne (8), 3) := by decide +kernel
theorem d_Mo_worth_100 : decode prog_12_method_48_code 100 = .ok (.bipush (7), 2) := by decide +kernel
theorem d_Mo_worth_102 : decode prog_12_method_48_code 102 = .ok (.goto (9), 3) := by decide +kernel
theorem d_Mo_worth_105 : decode prog_12_method_48_code 105 = .ok (.aload_n 0, 1) := by decide +kernel
theorem d_Mo_worth_106 : decode prog_12_method_48_code 106 = .ok (.getfield 28, 3) := by decide +kernel
theorem d_Mo_worth_109 : decode prog_12_method_48_code 109 = .ok (.iload_n 2, 1) := by decide +kernel
theorem d_Mo_worth_110 : decode prog_12_method_48_code 110 = .ok (.iaload, 1) := by decide +kernel
theorem d_Mo_worth_111 : decode prog_12_method_48_code 111 = .ok (.ireturn, 1) := by decide +kernel
theorem d_Mo_worth_112 : decode prog_12_method_48_code 112 = .ok (.iload_n 1, 1) := by decide +kernel
theorem d_Mo_worth_113 : decode prog_12_method_48_code 113 = .ok (.bipush (6), 2) := by decide +kernel
theorem d_Mo_worth_115 : decode prog_12_method_48_code 115 = .ok (.if_icmp .ne (13), 3) := by decide +kernel
theorem d_Mo_worth_118 : decode prog_12_method_48_code 118 = .ok (.aload_n 0, 1) := by decide +kernel
theorem d_Mo_worth_119 : decode prog_12_method_48_code 119 = .ok (.getfield 98, 3) := by decide +kernel
theorem d_Mo_worth_122 : decode prog_12_method_48_code 122 = .ok (.iload 4, 2) := by decide +kernel
theorem d_Mo_worth_124 : decode prog_12_method_48_code 124 = .ok (.iaload, 1) := by decide +kernel
theorem d_Mo_worth_125 : decode prog_12_method_48_code 125 = .ok (.goto (13), 3) := by decide +kernel
theorem d_Mo_worth_128 : decode prog_12_method_48_code 128 = .ok (.iload_n 2, 1) := by decide +kernel
theorem d_Mo_worth_129 : decode prog_12_method_48_code 129 = .ok (.iconst 4, 1) := by decide +kernel
theorem d_Mo_worth_130 : decode prog_12_method_48_code 130 = .ok (.if_icmp .ne (7), 3) := by decide +kernel
theorem d_Mo_worth_133 : decode prog_12_method_48_code 133 = .ok (.iconst (-1), 1) := by decide +kernel
theorem d_Mo_worth_134 : decode prog_12_method_48_code 134 = .ok (.goto (4), 3) := by decide +kernel
theorem d_Mo_worth_137 : decode prog_12_method_48_code 137 = .ok (.iload_n 2, 1) := by decide +kernel
theorem d_Mo_worth_138 : decode prog_12_method_48_code 138 = .ok (.ireturn, 1) := by decide +kernel
def F_Mo_worth (N : Nat → Nat) (v0 : Nat) (x1 : Int32) (x2 : Int32) (x3 : Int32) (σ : rs_Mem) (Q : Int32 → rs_Mem → Prop) : Prop :=
  (∀ x51 : Int32, x51 = (((12 : Int32) * x2) + x3) → ((¬ (x1 = 0) → ((¬ (x1 = (1 : Int32)) → ((¬ (x1 = (2 : Int32)) → ((¬ (x1 = (4 : Int32)) → ((¬ (x1 = (5 : Int32)) → ((¬ (x1 = (6 : Int32)) → ((¬ (x2 = (4 : Int32)) → (Q x2 σ)) ∧ (x2 = (4 : Int32) → (Q (-1 : Int32) σ)))) ∧ (x1 = (6 : Int32) → (vp_in x51 (N (rs_R σ v0 32)) ∧ (Q (rs_I σ (rs_R σ v0 32) x51.toNatClampNeg) σ))))) ∧ (x1 = (5 : Int32) → (vp_in x51 (N (rs_R σ v0 31)) ∧ (((rs_I σ (rs_R σ v0 31) x51.toNatClampNeg) ≤ 0 → ((¬ (x2 = (4 : Int32)) → (vp_in x2 (N (rs_R σ v0 7)) ∧ (Q (rs_I σ (rs_R σ v0 7) x2.toNatClampNeg) σ))) ∧ (x2 = (4 : Int32) → (Q (7 : Int32) σ)))) ∧ (¬ ((rs_I σ (rs_R σ v0 31) x51.toNatClampNeg) ≤ 0) → (vp_in x51 (N (rs_R σ v0 31)) ∧ (Q (rs_I σ (rs_R σ v0 31) x51.toNatClampNeg) σ)))))))) ∧ (x1 = (4 : Int32) → ((x2 = (4 : Int32) → (Q (0 : Int32) σ)) ∧ (¬ (x2 = (4 : Int32)) → (F_Mo_isInternal N v0 x2 σ (fun x53 σ52 => ((¬ (x53 = 0) → (Q (1 : Int32) σ52)) ∧ (x53 = 0 → (Q (0 : Int32) σ52)))))))))) ∧ (x1 = (2 : Int32) → (vp_in x51 (N (rs_R σ v0 25)) ∧ (Q (rs_I σ (rs_R σ v0 25) x51.toNatClampNeg) σ))))) ∧ (x1 = (1 : Int32) → (vp_in x51 (N (rs_R σ v0 26)) ∧ (Q (rs_I σ (rs_R σ v0 26) x51.toNatClampNeg) σ))))) ∧ (x1 = 0 → (F_Mo_valued N v0 x2 x3 σ (fun x53 σ52 => (Q (-x53) σ52))))))
abbrev y_Mo_worth : MethodName := ({ cls := "RouteSpeakerModel", name := "worth", desc := "(III)I" } : Jvm.MethodName)
theorem rc_Mo_worth : rs_Cal y_Mo_worth prog_12_method_48_code 5 (some .int) 3 := ⟨tw_1087, tw_11, by decide, by decide, by decide +kernel⟩
set_option maxRecDepth 20000 in
theorem J_Mo_worth (l : Launch) {G : rs_G} {Bm : Nat} {S : rs_Shp} {v0 : Nat} {x1 : Int32} {x2 : Int32} {x3 : Int32} {σ : rs_Mem} {Q : Int32 → rs_Mem → Prop} (h_v0 : rs_Ok S 11 v0) (hF : F_Mo_worth S.2.2 v0 x1 x2 x3 σ Q) :
    Met l y_Mo_worth (rs_ws y_Mo_worth prog_12_method_48_code 5 (some .int)) { frames := 3, cells := 0, slots := 0, locals := 66 } (rs_P G Bm S σ [.ref (Bm + v0), .int x1, .int x2, .int x3]) (rs_Qi G Bm S Q) 0 0 (rs_A Bm) := by
  refine rs_met (own := "RouteSpeakerModel") (by decide) rfl (Nat.le_of_ble_eq_true rfl) (fun p e s m below meth c ls C hl hH hT hS => ?_)
  replace hl : lv_has ls 5 [(0, .ref (Bm + v0)), (1, .int x1), (2, .int x2), (3, .int x3)] := hl
  have hx := C.1
  have hb := C.2.1
  unfold F_Mo_worth at hF
  refine lv_bipush hx hb d_Mo_worth_0 kb_12 ?_
  refine lv_iload_n hx hb d_Mo_worth_2 rfl (lv_at hl 2 rfl) ?_
  refine lv_imul hx hb d_Mo_worth_3 ?_
  refine lv_iload_n hx hb d_Mo_worth_4 rfl (lv_at hl 3 rfl) ?_
  refine lv_iadd hx hb d_Mo_worth_5 ?_
  refine lv_topi (fun x51 ex51 => ?_)
  replace hF := hF x51 ex51
  refine lv_istore hx hb d_Mo_worth_6 hl (by decide) (lv' := [(4, .int x51), (0, .ref (Bm + v0)), (1, .int x1), (2, .int x2), (3, .int x3)]) rfl (fun ls hl => ?_)
  refine lv_iload_n hx hb d_Mo_worth_8 rfl (lv_at hl 2 rfl) ?_
  refine lv_if_ne hx hb d_Mo_worth_9 (tgt := 20) rfl (fun hc => ?_) (fun hc => ?_)
  · replace hF := hF.1 hc
    refine lv_iload_n hx hb d_Mo_worth_20 rfl (lv_at hl 2 rfl) ?_
    refine lv_iconst hx hb d_Mo_worth_21 ki_1 ?_
    refine lv_icmp_ne hx hb d_Mo_worth_22 (tgt := 33) rfl (fun hc => ?_) (fun hc => ?_)
    · replace hF := hF.1 hc
      refine lv_iload_n hx hb d_Mo_worth_33 rfl (lv_at hl 2 rfl) ?_
      refine lv_iconst hx hb d_Mo_worth_34 ki_2 ?_
      refine lv_icmp_ne hx hb d_Mo_worth_35 (tgt := 46) rfl (fun hc => ?_) (fun hc => ?_)
      · replace hF := hF.1 hc
        refine lv_iload_n hx hb d_Mo_worth_46 rfl (lv_at hl 2 rfl) ?_
        refine lv_iconst hx hb d_Mo_worth_47 ki_4 ?_
        refine lv_icmp_ne hx hb d_Mo_worth_48 (tgt := 70) rfl (fun hc => ?_) (fun hc => ?_)
        · replace hF := hF.1 hc
          refine lv_iload_n hx hb d_Mo_worth_70 rfl (lv_at hl 2 rfl) ?_
          refine lv_iconst hx hb d_Mo_worth_71 ki_5 ?_
          refine lv_icmp_ne hx hb d_Mo_worth_72 (tgt := 112) rfl (fun hc => ?_) (fun hc => ?_)
          · replace hF := hF.1 hc
            refine lv_iload_n hx hb d_Mo_worth_112 rfl (lv_at hl 2 rfl) ?_
            refine lv_bipush hx hb d_Mo_worth_113 kb_6 ?_
            refine lv_icmp_ne hx hb d_Mo_worth_115 (tgt := 128) rfl (fun hc => ?_) (fun hc => ?_)
            · replace hF := hF.1 hc
              refine lv_iload_n hx hb d_Mo_worth_128 rfl (lv_at hl 3 rfl) ?_
              refine lv_iconst hx hb d_Mo_worth_129 ki_4 ?_
              refine lv_icmp_ne hx hb d_Mo_worth_130 (tgt := 137) rfl (fun hc => ?_) (fun hc => ?_)
              · replace hF := hF.1 hc
                refine lv_iload_n hx hb d_Mo_worth_137 rfl (lv_at hl 3 rfl) ?_
                exact rs_iret C hH hT hS hF d_Mo_worth_138
              · replace hF := hF.2 hc
                refine lv_iconst hx hb d_Mo_worth_133 ki_m1 ?_
                refine lv_goto hx hb d_Mo_worth_134 (tgt := 138) rfl ?_
                exact rs_iret C hH hT hS hF d_Mo_worth_138
            · replace hF := hF.2 hc
              refine lv_aload_n hx hb d_Mo_worth_118 rfl (lv_at hl 1 rfl) ?_
              refine rs_getR C hH hT h_v0 fk_11_32 tw_931 d_Mo_worth_119 (fun h52 => ?_)
              refine lv_iload hx hb d_Mo_worth_122 (lv_at hl 0 rfl) ?_
              obtain ⟨g53, hF⟩ := hF
              refine rs_iald C hH h52 g53 d_Mo_worth_124 ?_
              refine lv_goto hx hb d_Mo_worth_125 (tgt := 138) rfl ?_
              exact rs_iret C hH hT hS hF d_Mo_worth_138
          · replace hF := hF.2 hc
            refine lv_aload_n hx hb d_Mo_worth_75 rfl (lv_at hl 1 rfl) ?_
            refine rs_getR C hH hT h_v0 fk_11_31 tw_930 d_Mo_worth_76 (fun h52 => ?_)
            refine lv_iload hx hb d_Mo_worth_79 (lv_at hl 0 rfl) ?_
            obtain ⟨g53, hF⟩ := hF
            refine rs_iald C hH h52 g53 d_Mo_worth_81 ?_
            refine lv_if_le hx hb d_Mo_worth_82 (tgt := 95) rfl (fun hc => ?_) (fun hc => ?_)
            · replace hF := hF.1 hc
              refine lv_iload_n hx hb d_Mo_worth_95 rfl (lv_at hl 3 rfl) ?_
              refine lv_iconst hx hb d_Mo_worth_96 ki_4 ?_
              refine lv_icmp_ne hx hb d_Mo_worth_97 (tgt := 105) rfl (fun hc => ?_) (fun hc => ?_)
              · replace hF := hF.1 hc
                refine lv_aload_n hx hb d_Mo_worth_105 rfl (lv_at hl 1 rfl) ?_
                refine rs_getR C hH hT h_v0 fk_11_7 tw_906 d_Mo_worth_106 (fun h54 => ?_)
                refine lv_iload_n hx hb d_Mo_worth_109 rfl (lv_at hl 3 rfl) ?_
                obtain ⟨g55, hF⟩ := hF
                refine rs_iald C hH h54 g55 d_Mo_worth_110 ?_
                exact rs_iret C hH hT hS hF d_Mo_worth_111
              · replace hF := hF.2 hc
                refine lv_bipush hx hb d_Mo_worth_100 kb_7 ?_
                refine lv_goto hx hb d_Mo_worth_102 (tgt := 111) rfl ?_
                exact rs_iret C hH hT hS hF d_Mo_worth_111
            · replace hF := hF.2 hc
              refine lv_aload_n hx hb d_Mo_worth_85 rfl (lv_at hl 1 rfl) ?_
              refine rs_getR C hH hT h_v0 fk_11_31 tw_930 d_Mo_worth_86 (fun h54 => ?_)
              refine lv_iload hx hb d_Mo_worth_89 (lv_at hl 0 rfl) ?_
              obtain ⟨g55, hF⟩ := hF
              refine rs_iald C hH h54 g55 d_Mo_worth_91 ?_
              refine lv_goto hx hb d_Mo_worth_92 (tgt := 111) rfl ?_
              exact rs_iret C hH hT hS hF d_Mo_worth_111
        · replace hF := hF.2 hc
          refine lv_iload_n hx hb d_Mo_worth_51 rfl (lv_at hl 3 rfl) ?_
          refine lv_iconst hx hb d_Mo_worth_52 ki_4 ?_
          refine lv_icmp_eq hx hb d_Mo_worth_53 (tgt := 64) rfl (fun hc => ?_) (fun hc => ?_)
          · replace hF := hF.1 hc
            refine lv_iconst hx hb d_Mo_worth_64 ki_0 ?_
            refine lv_goto hx hb d_Mo_worth_65 (tgt := 69) rfl ?_
            exact rs_iret C hH hT hS hF d_Mo_worth_69
          · replace hF := hF.2 hc
            refine lv_aload_n hx hb d_Mo_worth_56 rfl (lv_at hl 1 rfl) ?_
            refine lv_iload_n hx hb d_Mo_worth_57 rfl (lv_at hl 3 rfl) ?_
            refine rs_ci (rs_runV C hH hT hl (J_Mo_isInternal l h_v0 hF) rc_Mo_isInternal tw_1092 tw_1094 ts_46 h_v0 ⟨rfl, by decide, by decide⟩ rfl ⟨⟨rfl, rfl⟩, by decide, by decide, by decide⟩ (Nat.le_of_ble_eq_true rfl) rfl d_Mo_worth_58) hS (fun x53 σ52 H locs hH hT hS hF => ?_)
            refine lv_if_ne hx hb d_Mo_worth_61 (tgt := 68) rfl (fun hc => ?_) (fun hc => ?_)
            · replace hF := hF.1 hc
              refine lv_iconst hx hb d_Mo_worth_68 ki_1 ?_
              exact rs_iret C hH hT hS hF d_Mo_worth_69
            · replace hF := hF.2 hc
              refine lv_iconst hx hb d_Mo_worth_64 ki_0 ?_
              refine lv_goto hx hb d_Mo_worth_65 (tgt := 69) rfl ?_
              exact rs_iret C hH hT hS hF d_Mo_worth_69
      · replace hF := hF.2 hc
        refine lv_aload_n hx hb d_Mo_worth_38 rfl (lv_at hl 1 rfl) ?_
        refine rs_getR C hH hT h_v0 fk_11_25 tw_924 d_Mo_worth_39 (fun h52 => ?_)
        refine lv_iload hx hb d_Mo_worth_42 (lv_at hl 0 rfl) ?_
        obtain ⟨g53, hF⟩ := hF
        refine rs_iald C hH h52 g53 d_Mo_worth_44 ?_
        exact rs_iret C hH hT hS hF d_Mo_worth_45
    · replace hF := hF.2 hc
      refine lv_aload_n hx hb d_Mo_worth_25 rfl (lv_at hl 1 rfl) ?_
      refine rs_getR C hH hT h_v0 fk_11_26 tw_925 d_Mo_worth_26 (fun h52 => ?_)
      refine lv_iload hx hb d_Mo_worth_29 (lv_at hl 0 rfl) ?_
      obtain ⟨g53, hF⟩ := hF
      refine rs_iald C hH h52 g53 d_Mo_worth_31 ?_
      exact rs_iret C hH hT hS hF d_Mo_worth_32
  · replace hF := hF.2 hc
    refine lv_aload_n hx hb d_Mo_worth_12 rfl (lv_at hl 1 rfl) ?_
    refine lv_iload_n hx hb d_Mo_worth_13 rfl (lv_at hl 3 rfl) ?_
    refine lv_iload_n hx hb d_Mo_worth_14 rfl (lv_at hl 4 rfl) ?_
    refine rs_ci (rs_runV C hH hT hl (J_Mo_valued l h_v0 hF) rc_Mo_valued tw_1088 tw_1090 ts_45 h_v0 ⟨rfl, by decide, by decide⟩ rfl ⟨⟨rfl, rfl⟩, by decide, by decide, by decide⟩ (Nat.le_of_ble_eq_true rfl) rfl d_Mo_worth_15) hS (fun x53 σ52 H locs hH hT hS hF => ?_)
    refine lv_ineg hx hb d_Mo_worth_18 ?_
    exact rs_iret C hH hT hS hF d_Mo_worth_19
/-! RouteSpeakerModel.keepLeast(II)V -/
theorem d_Mo_keepLeast_0 : decode prog_12_method_49_code 0 = .ok (.ldc_w 258, 3) := by decide +kernel
theorem d_Mo_keepLeast_3 : decode prog_12_method_49_code 3 = .ok (.istore_n 3, 1) := by decide +kernel
theorem d_Mo_keepLeast_4 : decode prog_12_method_49_code 4 = .ok (.iconst 0, 1) := by decide +kernel
theorem d_Mo_keepLeast_5 : decode prog_12_method_49_code 5 = .ok (.istore 4, 2) := by decide +kernel
theorem d_Mo_keepLeast_7 : decode prog_12_method_49_code 7 = .ok (.iload 4, 2) := by decide +kernel
theorem d_Mo_keepLeast_9 : decode prog_12_method_49_code 9 = .ok (.iconst 5, 1) := by decide +kernel
theorem d_Mo_keepLeast_10 : decode prog_12_method_49_code 10 = .ok (.if_icmp .ge (46), 3) := by decide +kernel
theorem d_Mo_keepLeast_13 : decode prog_12_method_49_code 13 = .ok (.aload_n 0, 1) := by decide +kernel
theorem d_Mo_keepLeast_14 : decode prog_12_method_49_code 14 = .ok (.getfield 123, 3) := by decide +kernel
theorem d_Mo_keepLeast_17 : decode prog_12_method_49_code 17 = .ok (.iload 4, 2) := by decide +kernel
theorem d_Mo_keepLeast_19 : decode prog_12_method_49_code 19 = .ok (.baload, 1) := by decide +kernel
theorem d_Mo_keepLeast_20 : decode prog_12_method_49_code 20 = .ok (.ifCond .eq (14), 3) := by decide +kernel
theorem d_Mo_keepLeast_23 : decode prog_12_method_49_code 23 = .ok (.aload_n 0, 1) := by decide +kernel
theorem d_Mo_keepLeast_24 : decode prog_12_method_49_code 24 = .ok (.iload_n 1, 1) := by decide +kernel
theorem d_Mo_keepLeast_25 : decode prog_12_method_49_code 25 = .ok (.iload 4, 2) := by decide +kernel
theorem d_Mo_keepLeast_27 : decode prog_12_method_49_code 27 = .ok (.iload_n 2, 1) := by decide +kernel
theorem d_Mo_keepLeast_28 : decode prog_12_method_49_code 28 = .ok (.invokevirtual 259, 3) := by decide +kernel
theorem d_Mo_keepLeast_31 : decode prog_12_method_49_code 31 = .ok (.goto (4), 3) := by decide +kernel
theorem d_Mo_keepLeast_34 : decode prog_12_method_49_code 34 = .ok (.iload_n 3, 1) := by decide +kernel
theorem d_Mo_keepLeast_35 : decode prog_12_method_49_code 35 = .ok (.istore 5, 2) := by decide +kernel
theorem d_Mo_keepLeast_37 : decode prog_12_method_49_code 37 = .ok (.iload 5, 2) := by decide +kernel
theorem d_Mo_keepLeast_39 : decode prog_12_method_49_code 39 = .ok (.iload_n 3, 1) := by decide +kernel
theorem d_Mo_keepLeast_40 : decode prog_12_method_49_code 40 = .ok (.if_icmp .ge (8), 3) := by decide +kernel
theorem d_Mo_keepLeast_43 : decode prog_12_method_49_code 43 = .ok (.iload 5, 2) := by decide +kernel
theorem d_Mo_keepLeast_45 : decode prog_12_method_49_code 45 = .ok (.goto (4), 3) := by decide +kernel
theorem d_Mo_keepLeast_48 : decode prog_12_method_49_code 48 = .ok (.iload_n 3, 1) := by decide +kernel
theorem d_Mo_keepLeast_49 : decode prog_12_method_49_code 49 = .ok (.istore_n 3, 1) := by decide +kernel
theorem d_Mo_keepLeast_50 : decode prog_12_method_49_code 50 = .ok (.iinc 4 (1), 3) := by decide +kernel
theorem d_Mo_keepLeast_53 : decode prog_12_method_49_code 53 = .ok (.goto (-46), 3) := by decide +kernel
theorem d_Mo_keepLeast_56 : decode prog_12_method_49_code 56 = .ok (.iconst 0, 1) := by decide +kernel
theorem d_Mo_keepLeast_57 : decode prog_12_method_49_code 57 = .ok (.istore 4, 2) := by decide +kernel
theorem d_Mo_keepLeast_59 : decode prog_12_method_49_code 59 = .ok (.iload 4, 2) := by decide +kernel
theorem d_Mo_keepLeast_61 : decode prog_12_method_49_code 61 = .ok (.iconst 5, 1) := by decide +kernel
theorem d_Mo_keepLeast_62 : decode prog_12_method_49_code 62 = .ok (.if_icmp .ge (43), 3) := by decide +kernel
theorem d_Mo_keepLeast_65 : decode prog_12_method_49_code 65 = .ok (.aload_n 0, 1) := by decide +kernel
theorem d_Mo_keepLeast_66 : decode prog_12_method_49_code 66 = .ok (.getfield 123, 3) := by decide +kernel
theorem d_Mo_keepLeast_69 : decode prog_12_method_49_code 69 = .ok (.iload 4, 2) := by decide +kernel
theorem d_Mo_keepLeast_71 : decode prog_12_method_49_code 71 = .ok (.aload_n 0, 1) := by decide +kernel
theorem d_Mo_keepLeast_72 : decode prog_12_method_49_code 72 = .ok (.getfield 123, 3) := by decide +kernel
theorem d_Mo_keepLeast_75 : decode prog_12_method_49_code 75 = .ok (.iload 4, 2) := by decide +kernel
theorem d_Mo_keepLeast_77 : decode prog_12_method_49_code 77 = .ok (.baload, 1) := by decide +kernel
theorem d_Mo_keepLeast_78 : decode prog_12_method_49_code 78 = .ok (.ifCond .eq (19), 3) := by decide +kernel
theorem d_Mo_keepLeast_81 : decode prog_12_method_49_code 81 = .ok (.aload_n 0, 1) := by decide +kernel
theorem d_Mo_keepLeast_82 : decode prog_12_method_49_code 82 = .ok (.iload_n 1, 1) := by decide +kernel
theorem d_Mo_keepLeast_83 : decode prog_12_method_49_code 83 = .ok (.iload 4, 2) := by decide +kernel
theorem d_Mo_keepLeast_85 : decode prog_12_method_49_code 85 = .ok (.iload_n 2, 1) := by decide +kernel
theorem d_Mo_keepLeast_86 : decode prog_12_method_49_code 86 = .ok (.invokevirtual 259, 3) := by decide +kernel
theorem d_Mo_keepLeast_89 : decode prog_12_method_49_code 89 = .ok (.iload_n 3, 1) := by decide +kernel
theorem d_Mo_keepLeast_90 : decode prog_12_method_49_code 90 = .ok (.if_icmp .ne (7), 3) := by decide +kernel
theorem d_Mo_keepLeast_93 : decode prog_12_method_49_code 93 = .ok (.iconst 1, 1) := by decide +kernel
theorem d_Mo_keepLeast_94 : decode prog_12_method_49_code 94 = .ok (.goto (4), 3) := by decide +kernel
theorem d_Mo_keepLeast_97 : decode prog_12_method_49_code 97 = .ok (.iconst 0, 1) := by decide +kernel
theorem d_Mo_keepLeast_98 : decode prog_12_method_49_code 98 = .ok (.bastore, 1) := by decide +kernel
theorem d_Mo_keepLeast_99 : decode prog_12_method_49_code 99 = .ok (.iinc 4 (1), 3) := by decide +kernel
theorem d_Mo_keepLeast_102 : decode prog_12_method_49_code 102 = .ok (.goto (-43), 3) := by decide +kernel
theorem d_Mo_keepLeast_105 : decode prog_12_method_49_code 105 = .ok (.return_, 1) := by decide +kernel
def B_Mo_keepLeast_35 (N : Nat → Nat) (K7 : Nat → Int32 → Int32 → Int32 → Int32 → rs_Mem → Prop) (Q : rs_Mem → Prop) (v0 : Nat) (x1 : Int32) (x2 : Int32) (x3 : Int32) (x4 : Int32) (y0 : Int32) (σ : rs_Mem) : Prop :=
  ((x3 ≤ y0 → (∀ x51 : Int32, x51 = x4 + (1 : Int32) → (K7 v0 x1 x2 x3 x51 σ))) ∧ (¬ (x3 ≤ y0) → (∀ x51 : Int32, x51 = x4 + (1 : Int32) → (K7 v0 x1 x2 y0 x51 σ))))
def B_Mo_keepLeast_97 (N : Nat → Nat) (K59 : Nat → Int32 → Int32 → Int32 → Int32 → rs_Mem → Prop) (Q : rs_Mem → Prop) (v0 : Nat) (x1 : Int32) (x2 : Int32) (x3 : Int32) (x4 : Int32) (w0 : Nat) (y1 : Int32) (σ : rs_Mem) : Prop :=
  (vp_in y1 (N w0) ∧ ∀ σ52 : rs_Mem, σ52 = rs_sI σ w0 y1.toNatClampNeg (0 : Int32) → (∀ x53 : Int32, x53 = x4 + (1 : Int32) → (K59 v0 x1 x2 x3 x53 σ52)))
def G_Mo_keepLeast_59 (N : Nat → Nat) (Q : rs_Mem → Prop) (K59 : Nat → Int32 → Int32 → Int32 → Int32 → rs_Mem → Prop) (v0 : Nat) (x1 : Int32) (x2 : Int32) (x3 : Int32) (x4 : Int32) (σ : rs_Mem) : Prop :=
  (((5 : Int32) ≤ x4 → (Q σ)) ∧ (¬ ((5 : Int32) ≤ x4) → (vp_in x4 (N (rs_R σ v0 40)) ∧ (((rs_I σ (rs_R σ v0 40) x4.toNatClampNeg) = 0 → (B_Mo_keepLeast_97 N K59 Q v0 x1 x2 x3 x4 (rs_R σ v0 40) x4 σ)) ∧ (¬ ((rs_I σ (rs_R σ v0 40) x4.toNatClampNeg) = 0) → (F_Mo_worth N v0 x1 x4 x2 σ (fun x55 σ54 => ((¬ (x55 = x3) → (B_Mo_keepLeast_97 N K59 Q v0 x1 x2 x3 x4 (rs_R σ v0 40) x4 σ54)) ∧ (x55 = x3 → (vp_in x4 (N (rs_R σ v0 40)) ∧ ∀ σ57 : rs_Mem, σ57 = rs_sI σ54 (rs_R σ v0 40) x4.toNatClampNeg (1 : Int32) → (∀ x58 : Int32, x58 = x4 + (1 : Int32) → (K59 v0 x1 x2 x3 x58 σ57))))))))))))
noncomputable def L_Mo_keepLeast_59 (N : Nat → Nat) (Q : rs_Mem → Prop) (n : Nat) : Nat → Int32 → Int32 → Int32 → Int32 → rs_Mem → Prop := Nat.rec (motive := fun _ => Nat → Int32 → Int32 → Int32 → Int32 → rs_Mem → Prop) (fun _ _ _ _ _ _ => False) (fun _ K => G_Mo_keepLeast_59 N Q K) n
def G_Mo_keepLeast_7 (N : Nat → Nat) (Q : rs_Mem → Prop) (K7 : Nat → Int32 → Int32 → Int32 → Int32 → rs_Mem → Prop) (v0 : Nat) (x1 : Int32) (x2 : Int32) (x3 : Int32) (x4 : Int32) (σ : rs_Mem) : Prop :=
  (((5 : Int32) ≤ x4 → (∃ n : Nat, L_Mo_keepLeast_59 N Q n v0 x1 x2 x3 (0 : Int32) σ)) ∧ (¬ ((5 : Int32) ≤ x4) → (vp_in x4 (N (rs_R σ v0 40)) ∧ (((rs_I σ (rs_R σ v0 40) x4.toNatClampNeg) = 0 → (B_Mo_keepLeast_35 N K7 Q v0 x1 x2 x3 x4 x3 σ)) ∧ (¬ ((rs_I σ (rs_R σ v0 40) x4.toNatClampNeg) = 0) → (F_Mo_worth N v0 x1 x4 x2 σ (fun x54 σ53 => (B_Mo_keepLeast_35 N K7 Q v0 x1 x2 x3 x4 x54 σ53))))))))
noncomputable def L_Mo_keepLeast_7 (N : Nat → Nat) (Q : rs_Mem → Prop) (n : Nat) : Nat → Int32 → Int32 → Int32 → Int32 → rs_Mem → Prop := Nat.rec (motive := fun _ => Nat → Int32 → Int32 → Int32 → Int32 → rs_Mem → Prop) (fun _ _ _ _ _ _ => False) (fun _ K => G_Mo_keepLeast_7 N Q K) n
def F_Mo_keepLeast (N : Nat → Nat) (v0 : Nat) (x1 : Int32) (x2 : Int32) (σ : rs_Mem) (Q : rs_Mem → Prop) : Prop :=
  (∃ n : Nat, L_Mo_keepLeast_7 N Q n v0 x1 x2 (2147483647 : Int32) (0 : Int32) σ)
set_option maxRecDepth 20000 in
theorem JB_Mo_keepLeast_35 {p : Program} {l : Launch} {e : Env} {s : State} {m : MethodId} {args : Array Value} {below : List Frame} {meth : Method} {c : Code} {G : rs_G} {Bm : Nat} {S : rs_Shp} {K7 : Nat → Int32 → Int32 → Int32 → Int32 → rs_Mem → Prop} {Q : rs_Mem → Prop} (C : rs_C "RouteSpeakerModel" prog_12_method_49_code 6 none G p s m meth c args) (hK7 : ∀ (v0 : Nat) (x1 : Int32) (x2 : Int32) (x3 : Int32) (x4 : Int32) (σ : rs_Mem) (H : Heap) (locs : List Loc) (ls : Array Slot), rs_Ok S 11 v0 → rs_H G Bm S σ H → rs_T S σ → va_S (rs_A Bm) s.heap H locs → lv_has ls 6 [(0, .ref (Bm + v0)), (1, .int x1), (2, .int x2), (3, .int x3), (4, .int x4)] → K7 v0 x1 x2 x3 x4 σ → W p l e { frames := 4, cells := 0, slots := 0, locals := 90 } s m args below meth c H locs 0 0 (MQ below (rs_Qv G Bm S Q) args s 0 0 (rs_A Bm)) (F0 m 7 ls [])) (v0 : Nat) (x1 : Int32) (x2 : Int32) (x3 : Int32) (x4 : Int32) (y0 : Int32) (σ : rs_Mem) (H : Heap) (locs : List Loc) (ls : Array Slot) (h_v0 : rs_Ok S 11 v0) (hH : rs_H G Bm S σ H) (hT : rs_T S σ) (hS : va_S (rs_A Bm) s.heap H locs) (hl : lv_has ls 6 [(0, .ref (Bm + v0)), (1, .int x1), (2, .int x2), (3, .int x3), (4, .int x4)]) (hF : B_Mo_keepLeast_35 S.2.2 K7 Q v0 x1 x2 x3 x4 y0 σ) :
    W p l e { frames := 4, cells := 0, slots := 0, locals := 90 } s m args below meth c H locs 0 0 (MQ below (rs_Qv G Bm S Q) args s 0 0 (rs_A Bm)) (F0 m 35 ls [.int y0]) := by
  have hx := C.1
  have hb := C.2.1
  unfold B_Mo_keepLeast_35 at hF
  refine lv_istore hx hb d_Mo_keepLeast_35 hl (by decide) (lv' := [(5, .int y0), (0, .ref (Bm + v0)), (1, .int x1), (2, .int x2), (3, .int x3), (4, .int x4)]) rfl (fun ls hl => ?_)
  refine lv_iload hx hb d_Mo_keepLeast_37 (lv_at hl 0 rfl) ?_
  refine lv_iload_n hx hb d_Mo_keepLeast_39 rfl (lv_at hl 4 rfl) ?_
  refine lv_icmp_ge hx hb d_Mo_keepLeast_40 (tgt := 48) rfl (fun hc => ?_) (fun hc => ?_)
  · replace hF := hF.1 hc
    refine lv_iload_n hx hb d_Mo_keepLeast_48 rfl (lv_at hl 4 rfl) ?_
    refine lv_istore_n hx hb d_Mo_keepLeast_49 rfl hl (by decide) (lv' := [(3, .int x3), (5, .int y0), (0, .ref (Bm + v0)), (1, .int x1), (2, .int x2), (4, .int x4)]) rfl (fun ls hl => ?_)
    obtain ⟨x51, ex51⟩ : ∃ z : Int32, z = x4 + (1 : Int32) := ⟨_, rfl⟩
    replace hF := hF x51 ex51
    refine lv_iinc hx hb d_Mo_keepLeast_50 hl (k := 5) rfl (v := x51) (by rw [ki_1, ex51]) (by decide) (lv' := [(4, .int x51), (3, .int x3), (5, .int y0), (0, .ref (Bm + v0)), (1, .int x1), (2, .int x2)]) rfl (fun ls hl => ?_)
    refine lv_goto hx hb d_Mo_keepLeast_53 (tgt := 7) rfl ?_
    exact hK7 v0 x1 x2 x3 x51 σ _ _ _ h_v0 hH hT hS (lv_sub hl [3, 4, 5, 1, 0] rfl) hF
  · replace hF := hF.2 hc
    refine lv_iload hx hb d_Mo_keepLeast_43 (lv_at hl 0 rfl) ?_
    refine lv_goto hx hb d_Mo_keepLeast_45 (tgt := 49) rfl ?_
    refine lv_istore_n hx hb d_Mo_keepLeast_49 rfl hl (by decide) (lv' := [(3, .int y0), (5, .int y0), (0, .ref (Bm + v0)), (1, .int x1), (2, .int x2), (4, .int x4)]) rfl (fun ls hl => ?_)
    obtain ⟨x51, ex51⟩ : ∃ z : Int32, z = x4 + (1 : Int32) := ⟨_, rfl⟩
    replace hF := hF x51 ex51
    refine lv_iinc hx hb d_Mo_keepLeast_50 hl (k := 5) rfl (v := x51) (by rw [ki_1, ex51]) (by decide) (lv' := [(4, .int x51), (3, .int y0), (5, .int y0), (0, .ref (Bm + v0)), (1, .int x1), (2, .int x2)]) rfl (fun ls hl => ?_)
    refine lv_goto hx hb d_Mo_keepLeast_53 (tgt := 7) rfl ?_
    exact hK7 v0 x1 x2 y0 x51 σ _ _ _ h_v0 hH hT hS (lv_sub hl [3, 4, 5, 1, 0] rfl) hF
set_option maxRecDepth 20000 in
theorem JB_Mo_keepLeast_97 {p : Program} {l : Launch} {e : Env} {s : State} {m : MethodId} {args : Array Value} {below : List Frame} {meth : Method} {c : Code} {G : rs_G} {Bm : Nat} {S : rs_Shp} {K59 : Nat → Int32 → Int32 → Int32 → Int32 → rs_Mem → Prop} {Q : rs_Mem → Prop} (C : rs_C "RouteSpeakerModel" prog_12_method_49_code 6 none G p s m meth c args) (hK59 : ∀ (v0 : Nat) (x1 : Int32) (x2 : Int32) (x3 : Int32) (x4 : Int32) (σ : rs_Mem) (H : Heap) (locs : List Loc) (ls : Array Slot), rs_Ok S 11 v0 → rs_H G Bm S σ H → rs_T S σ → va_S (rs_A Bm) s.heap H locs → lv_has ls 6 [(0, .ref (Bm + v0)), (1, .int x1), (2, .int x2), (3, .int x3), (4, .int x4)] → K59 v0 x1 x2 x3 x4 σ → W p l e { frames := 4, cells := 0, slots := 0, locals := 90 } s m args below meth c H locs 0 0 (MQ below (rs_Qv G Bm S Q) args s 0 0 (rs_A Bm)) (F0 m 59 ls [])) (v0 : Nat) (x1 : Int32) (x2 : Int32) (x3 : Int32) (x4 : Int32) (w0 : Nat) (y1 : Int32) (σ : rs_Mem) (H : Heap) (locs : List Loc) (ls : Array Slot) (h_v0 : rs_Ok S 11 v0) (h_w0 : rs_Ok S 21 w0) (hH : rs_H G Bm S σ H) (hT : rs_T S σ) (hS : va_S (rs_A Bm) s.heap H locs) (hl : lv_has ls 6 [(0, .ref (Bm + v0)), (1, .int x1), (2, .int x2), (3, .int x3), (4, .int x4)]) (hF : B_Mo_keepLeast_97 S.2.2 K59 Q v0 x1 x2 x3 x4 w0 y1 σ) :
    W p l e { frames := 4, cells := 0, slots := 0, locals := 90 } s m args below meth c H locs 0 0 (MQ below (rs_Qv G Bm S Q) args s 0 0 (rs_A Bm)) (F0 m 97 ls [.int y1, .ref (Bm + w0)]) := by
  have hx := C.1
  have hb := C.2.1
  unfold B_Mo_keepLeast_97 at hF
  refine lv_iconst hx hb d_Mo_keepLeast_97 ki_0 ?_
  obtain ⟨g51, hF⟩ := hF
  refine rs_zast C hH hT hS (by decide) h_w0 g51 d_Mo_keepLeast_98 (fun σ52 H locs eσ52 hH hT hS => ?_)
  replace hF := hF σ52 eσ52
  obtain ⟨x53, ex53⟩ : ∃ z : Int32, z = x4 + (1 : Int32) := ⟨_, rfl⟩
  replace hF := hF x53 ex53
  refine lv_iinc hx hb d_Mo_keepLeast_99 hl (k := 4) rfl (v := x53) (by rw [ki_1, ex53]) (by decide) (lv' := [(4, .int x53), (0, .ref (Bm + v0)), (1, .int x1), (2, .int x2), (3, .int x3)]) rfl (fun ls hl => ?_)
  refine lv_goto hx hb d_Mo_keepLeast_102 (tgt := 59) rfl ?_
  exact hK59 v0 x1 x2 x3 x53 σ52 _ _ _ h_v0 hH hT hS (lv_sub hl [1, 2, 3, 4, 0] rfl) hF
set_option maxRecDepth 20000 in
theorem JL_Mo_keepLeast_59 {p : Program} {l : Launch} {e : Env} {s : State} {m : MethodId} {args : Array Value} {below : List Frame} {meth : Method} {c : Code} {G : rs_G} {Bm : Nat} {S : rs_Shp} {Q : rs_Mem → Prop} (C : rs_C "RouteSpeakerModel" prog_12_method_49_code 6 none G p s m meth c args) : ∀ n : Nat, ∀ (v0 : Nat) (x1 : Int32) (x2 : Int32) (x3 : Int32) (x4 : Int32) (σ : rs_Mem) (H : Heap) (locs : List Loc) (ls : Array Slot), rs_Ok S 11 v0 → rs_H G Bm S σ H → rs_T S σ → va_S (rs_A Bm) s.heap H locs → lv_has ls 6 [(0, .ref (Bm + v0)), (1, .int x1), (2, .int x2), (3, .int x3), (4, .int x4)] → (L_Mo_keepLeast_59 S.2.2 Q n) v0 x1 x2 x3 x4 σ → W p l e { frames := 4, cells := 0, slots := 0, locals := 90 } s m args below meth c H locs 0 0 (MQ below (rs_Qv G Bm S Q) args s 0 0 (rs_A Bm)) (F0 m 59 ls []) := by
  have hx := C.1
  have hb := C.2.1
  intro n
  induction n with
  | zero => intros; rename_i hF; exact hF.elim
  | succ n hK59 =>
    intro v0 x1 x2 x3 x4 σ H locs ls h_v0 hH hT hS hl hF
    replace hF : G_Mo_keepLeast_59 S.2.2 Q (L_Mo_keepLeast_59 S.2.2 Q n) v0 x1 x2 x3 x4 σ := hF
    unfold G_Mo_keepLeast_59 at hF
    refine lv_iload hx hb d_Mo_keepLeast_59 (lv_at hl 4 rfl) ?_
    refine lv_iconst hx hb d_Mo_keepLeast_61 ki_5 ?_
    refine lv_icmp_ge hx hb d_Mo_keepLeast_62 (tgt := 105) rfl (fun hc => ?_) (fun hc => ?_)
    · replace hF := hF.1 hc
      exact rs_vret C hH hT hS hF d_Mo_keepLeast_105
    · replace hF := hF.2 hc
      refine lv_aload_n hx hb d_Mo_keepLeast_65 rfl (lv_at hl 0 rfl) ?_
      refine rs_getR C hH hT h_v0 fk_11_40 tw_939 d_Mo_keepLeast_66 (fun h51 => ?_)
      refine lv_iload hx hb d_Mo_keepLeast_69 (lv_at hl 4 rfl) ?_
      refine lv_aload_n hx hb d_Mo_keepLeast_71 rfl (lv_at hl 0 rfl) ?_
      refine rs_getR C hH hT h_v0 fk_11_40 tw_939 d_Mo_keepLeast_72 (fun h52 => ?_)
      refine lv_iload hx hb d_Mo_keepLeast_75 (lv_at hl 4 rfl) ?_
      obtain ⟨g53, hF⟩ := hF
      refine rs_zald C hH h52 g53 d_Mo_keepLeast_77 ?_
      refine lv_if_eq hx hb d_Mo_keepLeast_78 (tgt := 97) rfl (fun hc => ?_) (fun hc => ?_)
      · replace hF := hF.1 hc
        exact JB_Mo_keepLeast_97 C hK59 v0 x1 x2 x3 x4 (rs_R σ v0 40) x4 σ _ _ _ h_v0 h51 hH hT hS (lv_sub hl [0, 1, 2, 3, 4] rfl) hF
      · replace hF := hF.2 hc
        refine lv_aload_n hx hb d_Mo_keepLeast_81 rfl (lv_at hl 0 rfl) ?_
        refine lv_iload_n hx hb d_Mo_keepLeast_82 rfl (lv_at hl 1 rfl) ?_
        refine lv_iload hx hb d_Mo_keepLeast_83 (lv_at hl 4 rfl) ?_
        refine lv_iload_n hx hb d_Mo_keepLeast_85 rfl (lv_at hl 2 rfl) ?_
        refine rs_ci (rs_runV C hH hT hl (J_Mo_worth l h_v0 hF) rc_Mo_worth tw_1084 tw_1086 ts_44 h_v0 ⟨rfl, by decide, by decide⟩ rfl ⟨⟨rfl, rfl⟩, by decide, by decide, by decide⟩ (Nat.le_of_ble_eq_true rfl) rfl d_Mo_keepLeast_86) hS (fun x55 σ54 H locs hH hT hS hF => ?_)
        refine lv_iload_n hx hb d_Mo_keepLeast_89 rfl (lv_at hl 3 rfl) ?_
        refine lv_icmp_ne hx hb d_Mo_keepLeast_90 (tgt := 97) rfl (fun hc => ?_) (fun hc => ?_)
        · replace hF := hF.1 hc
          exact JB_Mo_keepLeast_97 C hK59 v0 x1 x2 x3 x4 (rs_R σ v0 40) x4 σ54 _ _ _ h_v0 h51 hH hT hS (lv_sub hl [0, 1, 2, 3, 4] rfl) hF
        · replace hF := hF.2 hc
          refine lv_iconst hx hb d_Mo_keepLeast_93 ki_1 ?_
          refine lv_goto hx hb d_Mo_keepLeast_94 (tgt := 98) rfl ?_
          obtain ⟨g56, hF⟩ := hF
          refine rs_zast C hH hT hS (by decide) h51 g56 d_Mo_keepLeast_98 (fun σ57 H locs eσ57 hH hT hS => ?_)
          replace hF := hF σ57 eσ57
          obtain ⟨x58, ex58⟩ : ∃ z : Int32, z = x4 + (1 : Int32) := ⟨_, rfl⟩
          replace hF := hF x58 ex58
          refine lv_iinc hx hb d_Mo_keepLeast_99 hl (k := 4) rfl (v := x58) (by rw [ki_1, ex58]) (by decide) (lv' := [(4, .int x58), (0, .ref (Bm + v0)), (1, .int x1), (2, .int x2), (3, .int x3)]) rfl (fun ls hl => ?_)
          refine lv_goto hx hb d_Mo_keepLeast_102 (tgt := 59) rfl ?_
          exact hK59 v0 x1 x2 x3 x58 σ57 _ _ _ h_v0 hH hT hS (lv_sub hl [1, 2, 3, 4, 0] rfl) hF
set_option maxRecDepth 20000 in
theorem JL_Mo_keepLeast_7 {p : Program} {l : Launch} {e : Env} {s : State} {m : MethodId} {args : Array Value} {below : List Frame} {meth : Method} {c : Code} {G : rs_G} {Bm : Nat} {S : rs_Shp} {Q : rs_Mem → Prop} (C : rs_C "RouteSpeakerModel" prog_12_method_49_code 6 none G p s m meth c args) : ∀ n : Nat, ∀ (v0 : Nat) (x1 : Int32) (x2 : Int32) (x3 : Int32) (x4 : Int32) (σ : rs_Mem) (H : Heap) (locs : List Loc) (ls : Array Slot), rs_Ok S 11 v0 → rs_H G Bm S σ H → rs_T S σ → va_S (rs_A Bm) s.heap H locs → lv_has ls 6 [(0, .ref (Bm + v0)), (1, .int x1), (2, .int x2), (3, .int x3), (4, .int x4)] → (L_Mo_keepLeast_7 S.2.2 Q n) v0 x1 x2 x3 x4 σ → W p l e { frames := 4, cells := 0, slots := 0, locals := 90 } s m args below meth c H locs 0 0 (MQ below (rs_Qv G Bm S Q) args s 0 0 (rs_A Bm)) (F0 m 7 ls []) := by
  have hx := C.1
  have hb := C.2.1
  intro n
  induction n with
  | zero => intros; rename_i hF; exact hF.elim
  | succ n hK7 =>
    intro v0 x1 x2 x3 x4 σ H locs ls h_v0 hH hT hS hl hF
    replace hF : G_Mo_keepLeast_7 S.2.2 Q (L_Mo_keepLeast_7 S.2.2 Q n) v0 x1 x2 x3 x4 σ := hF
    unfold G_Mo_keepLeast_7 at hF
    refine lv_iload hx hb d_Mo_keepLeast_7 (lv_at hl 4 rfl) ?_
    refine lv_iconst hx hb d_Mo_keepLeast_9 ki_5 ?_
    refine lv_icmp_ge hx hb d_Mo_keepLeast_10 (tgt := 56) rfl (fun hc => ?_) (fun hc => ?_)
    · replace hF := hF.1 hc
      refine lv_iconst hx hb d_Mo_keepLeast_56 ki_0 ?_
      refine lv_istore hx hb d_Mo_keepLeast_57 hl (by decide) (lv' := [(4, .int (0 : Int32)), (0, .ref (Bm + v0)), (1, .int x1), (2, .int x2), (3, .int x3)]) rfl (fun ls hl => ?_)
      obtain ⟨n, hF⟩ := hF
      exact JL_Mo_keepLeast_59 C n v0 x1 x2 x3 (0 : Int32) σ _ _ _ h_v0 hH hT hS (lv_sub hl [1, 2, 3, 4, 0] rfl) hF
    · replace hF := hF.2 hc
      refine lv_aload_n hx hb d_Mo_keepLeast_13 rfl (lv_at hl 0 rfl) ?_
      refine rs_getR C hH hT h_v0 fk_11_40 tw_939 d_Mo_keepLeast_14 (fun h51 => ?_)
      refine lv_iload hx hb d_Mo_keepLeast_17 (lv_at hl 4 rfl) ?_
      obtain ⟨g52, hF⟩ := hF
      refine rs_zald C hH h51 g52 d_Mo_keepLeast_19 ?_
      refine lv_if_eq hx hb d_Mo_keepLeast_20 (tgt := 34) rfl (fun hc => ?_) (fun hc => ?_)
      · replace hF := hF.1 hc
        refine lv_iload_n hx hb d_Mo_keepLeast_34 rfl (lv_at hl 3 rfl) ?_
        exact JB_Mo_keepLeast_35 C hK7 v0 x1 x2 x3 x4 x3 σ _ _ _ h_v0 hH hT hS (lv_sub hl [0, 1, 2, 3, 4] rfl) hF
      · replace hF := hF.2 hc
        refine lv_aload_n hx hb d_Mo_keepLeast_23 rfl (lv_at hl 0 rfl) ?_
        refine lv_iload_n hx hb d_Mo_keepLeast_24 rfl (lv_at hl 1 rfl) ?_
        refine lv_iload hx hb d_Mo_keepLeast_25 (lv_at hl 4 rfl) ?_
        refine lv_iload_n hx hb d_Mo_keepLeast_27 rfl (lv_at hl 2 rfl) ?_
        refine rs_ci (rs_runV C hH hT hl (J_Mo_worth l h_v0 hF) rc_Mo_worth tw_1084 tw_1086 ts_44 h_v0 ⟨rfl, by decide, by decide⟩ rfl ⟨⟨rfl, rfl⟩, by decide, by decide, by decide⟩ (Nat.le_of_ble_eq_true rfl) rfl d_Mo_keepLeast_28) hS (fun x54 σ53 H locs hH hT hS hF => ?_)
        refine lv_goto hx hb d_Mo_keepLeast_31 (tgt := 35) rfl ?_
        exact JB_Mo_keepLeast_35 C hK7 v0 x1 x2 x3 x4 x54 σ53 _ _ _ h_v0 hH hT hS (lv_sub hl [0, 1, 2, 3, 4] rfl) hF
abbrev y_Mo_keepLeast : MethodName := ({ cls := "RouteSpeakerModel", name := "keepLeast", desc := "(II)V" } : Jvm.MethodName)
theorem rc_Mo_keepLeast : rs_Cal y_Mo_keepLeast prog_12_method_49_code 6 none 2 := ⟨tw_1082, tw_11, by decide, by decide, by decide +kernel⟩
set_option maxRecDepth 20000 in
theorem J_Mo_keepLeast (l : Launch) {G : rs_G} {Bm : Nat} {S : rs_Shp} {v0 : Nat} {x1 : Int32} {x2 : Int32} {σ : rs_Mem} {Q : rs_Mem → Prop} (h_v0 : rs_Ok S 11 v0) (hF : F_Mo_keepLeast S.2.2 v0 x1 x2 σ Q) :
    Met l y_Mo_keepLeast (rs_ws y_Mo_keepLeast prog_12_method_49_code 6 none) { frames := 4, cells := 0, slots := 0, locals := 90 } (rs_P G Bm S σ [.ref (Bm + v0), .int x1, .int x2]) (rs_Qv G Bm S Q) 0 0 (rs_A Bm) := by
  refine rs_met (own := "RouteSpeakerModel") (by decide) rfl (Nat.le_of_ble_eq_true rfl) (fun p e s m below meth c ls C hl hH hT hS => ?_)
  replace hl : lv_has ls 6 [(0, .ref (Bm + v0)), (1, .int x1), (2, .int x2)] := hl
  have hx := C.1
  have hb := C.2.1
  unfold F_Mo_keepLeast at hF
  refine lv_ldcw hx hb C.2.2.2.2.1 (C.2.2.2.2.2.1 _ tw_1083) d_Mo_keepLeast_0 ?_
  refine lv_istore_n hx hb d_Mo_keepLeast_3 rfl hl (by decide) (lv' := [(3, .int (2147483647 : Int32)), (0, .ref (Bm + v0)), (1, .int x1), (2, .int x2)]) rfl (fun ls hl => ?_)
  refine lv_iconst hx hb d_Mo_keepLeast_4 ki_0 ?_
  refine lv_istore hx hb d_Mo_keepLeast_5 hl (by decide) (lv' := [(4, .int (0 : Int32)), (3, .int (2147483647 : Int32)), (0, .ref (Bm + v0)), (1, .int x1), (2, .int x2)]) rfl (fun ls hl => ?_)
  obtain ⟨n, hF⟩ := hF
  exact JL_Mo_keepLeast_7 C n v0 x1 x2 (2147483647 : Int32) (0 : Int32) σ _ _ _ h_v0 hH hT hS (lv_sub hl [2, 3, 4, 1, 0] rfl) hF
/-! RouteSpeakerModel.bestOf(I)I -/
theorem d_Mo_bestOf_0 : decode prog_12_method_53_code 0 = .ok (.iconst 0, 1) := by decide +kernel
theorem d_Mo_bestOf_1 : decode prog_12_method_53_code 1 = .ok (.istore_n 2, 1) := by decide +kernel
theorem d_Mo_bestOf_2 : decode prog_12_method_53_code 2 = .ok (.iload_n 2, 1) := by decide +kernel
theorem d_Mo_bestOf_3 : decode prog_12_method_53_code 3 = .ok (.iconst 5, 1) := by decide +kernel
theorem d_Mo_bestOf_4 : decode prog_12_method_53_code 4 = .ok (.if_icmp .ge (67), 3) := by decide +kernel
theorem d_Mo_bestOf_7 : decode prog_12_method_53_code 7 = .ok (.bipush (12), 2) := by decide +kernel
theorem d_Mo_bestOf_9 : decode prog_12_method_53_code 9 = .ok (.iload_n 2, 1) := by decide +kernel
theorem d_Mo_bestOf_10 : decode prog_12_method_53_code 10 = .ok (.imul, 1) := by decide +kernel
theorem d_Mo_bestOf_11 : decode prog_12_method_53_code 11 = .ok (.iload_n 1, 1) := by decide +kernel
theorem d_Mo_bestOf_12 : decode prog_12_method_53_code 12 = .ok (.iadd, 1) := by decide +kernel
theorem d_Mo_bestOf_13 : decode prog_12_method_53_code 13 = .ok (.istore_n 3, 1) := by decide +kernel
theorem d_Mo_bestOf_14 : decode prog_12_method_53_code 14 = .ok (.aload_n 0, 1) := by decide +kernel
theorem d_Mo_bestOf_15 : decode prog_12_method_53_code 15 = .ok (.getfield 123, 3) := by decide +kernel
theorem d_Mo_bestOf_18 : decode prog_12_method_53_code 18 = .ok (.iload_n 2, 1) := by decide +kernel
theorem d_Mo_bestOf_19 : decode prog_12_method_53_code 19 = .ok (.aload_n 0, 1) := by decide +kernel
theorem d_Mo_bestOf_20 : decode prog_12_method_53_code 20 = .ok (.getfield 73, 3) := by decide +kernel
theorem d_Mo_bestOf_23 : decode prog_12_method_53_code 23 = .ok (.iload_n 3, 1) := by decide +kernel
theorem d_Mo_bestOf_24 : decode prog_12_method_53_code 24 = .ok (.baload, 1) := by decide +kernel
theorem d_Mo_bestOf_25 : decode prog_12_method_53_code 25 = .ok (.ifCond .eq (38), 3) := by decide +kernel
theorem d_Mo_bestOf_28 : decode prog_12_method_53_code 28 = .ok (.iload_n 2, 1) := by decide +kernel
theorem d_Mo_bestOf_29 : decode prog_12_method_53_code 29 = .ok (.iconst 4, 1) := by decide +kernel
theorem d_Mo_bestOf_30 : decode prog_12_method_53_code 30 = .ok (.if_icmp .eq (29), 3) := by decide +kernel
theorem d_Mo_bestOf_33 : decode prog_12_method_53_code 33 = .ok (.aload_n 0, 1) := by decide +kernel
theorem d_Mo_bestOf_34 : decode prog_12_method_53_code 34 = .ok (.iload_n 3, 1) := by decide +kernel
theorem d_Mo_bestOf_35 : decode prog_12_method_53_code 35 = .ok (.invokevirtual 268, 3) := by decide +kernel
theorem d_Mo_bestOf_38 : decode prog_12_method_53_code 38 = .ok (.ifCond .ne (25), 3) := by decide +kernel
theorem d_Mo_bestOf_41 : decode prog_12_method_53_code 41 = .ok (.aload_n 0, 1) := by decide +kernel
theorem d_Mo_bestOf_42 : decode prog_12_method_53_code 42 = .ok (.getfield 108, 3) := by decide +kernel
theorem d_Mo_bestOf_45 : decode prog_12_method_53_code 45 = .ok (.iload_n 3, 1) := by decide +kernel
theorem d_Mo_bestOf_46 : decode prog_12_method_53_code 46 = .ok (.baload, 1) := by decide +kernel
theorem d_Mo_bestOf_47 : decode prog_12_method_53_code 47 = .ok (.ifCond .ne (16), 3) := by decide +kernel
theorem d_Mo_bestOf_50 : decode prog_12_method_53_code 50 = .ok (.aload_n 0, 1) := by decide +kernel
theorem d_Mo_bestOf_51 : decode prog_12_method_53_code 51 = .ok (.iload_n 2, 1) := by decide +kernel
theorem d_Mo_bestOf_52 : decode prog_12_method_53_code 52 = .ok (.iload_n 1, 1) := by decide +kernel
theorem d_Mo_bestOf_53 : decode prog_12_method_53_code 53 = .ok (.invokevirtual 271, 3) := by decide +kernel
theorem d_Mo_bestOf_56 : decode prog_12_method_53_code 56 = .ok (.ifCond .ne (7), 3) := by decide +kernel
theorem d_Mo_bestOf_59 : decode prog_12_method_53_code 59 = .ok (.iconst 1, 1) := by decide +kernel
theorem d_Mo_bestOf_60 : decode prog_12_method_53_code 60 = .ok (.goto (4), 3) := by decide +kernel
theorem d_Mo_bestOf_63 : decode prog_12_method_53_code 63 = .ok (.iconst 0, 1) := by decide +kernel
theorem d_Mo_bestOf_64 : decode prog_12_method_53_code 64 = .ok (.bastore, 1) := by decide +kernel
theorem d_Mo_bestOf_65 : decode prog_12_method_53_code 65 = .ok (.iinc 2 (1), 3) := by decide +kernel
theorem d_Mo_bestOf_68 : decode prog_12_method_53_code 68 = .ok (.goto (-66), 3) := by decide +kernel
theorem d_Mo_bestOf_71 : decode prog_12_method_53_code 71 = .ok (.iconst 0, 1) := by decide +kernel
theorem d_Mo_bestOf_72 : decode prog_12_method_53_code 72 = .ok (.istore_n 2, 1) := by decide +kernel
theorem d_Mo_bestOf_73 : decode prog_12_method_53_code 73 = .ok (.iload_n 2, 1) := by decide +kernel
theorem d_Mo_bestOf_74 : decode prog_12_method_53_code 74 = .ok (.bipush (8), 2) := by decide +kernel
theorem d_Mo_bestOf_76 : decode prog_12_method_53_code 76 = .ok (.if_icmp .ge (28), 3) := by decide +kernel
theorem d_Mo_bestOf_79 : decode prog_12_method_53_code 79 = .ok (.iload_n 2, 1) := by decide +kernel
theorem d_Mo_bestOf_80 : decode prog_12_method_53_code 80 = .ok (.iconst 3, 1) := by decide +kernel
theorem d_Mo_bestOf_81 : decode prog_12_method_53_code 81 = .ok (.if_icmp .ne (11), 3) := by decide +kernel
theorem d_Mo_bestOf_84 : decode prog_12_method_53_code 84 = .ok (.aload_n 0, 1) := by decide +kernel
theorem d_Mo_bestOf_85 : decode prog_12_method_53_code 85 = .ok (.iload_n 1, 1) := by decide +kernel
theorem d_Mo_bestOf_86 : decode prog_12_method_53_code 86 = .ok (.invokevirtual 274, 3) := by decide +kernel
theorem d_Mo_bestOf_89 : decode prog_12_method_53_code 89 = .ok (.goto (9), 3) := by decide +kernel
theorem d_Mo_bestOf_92 : decode prog_12_method_53_code 92 = .ok (.aload_n 0, 1) := by decide +kernel
theorem d_Mo_bestOf_93 : decode prog_12_method_53_code 93 = .ok (.iload_n 2, 1) := by decide +kernel
theorem d_Mo_bestOf_94 : decode prog_12_method_53_code 94 = .ok (.iload_n 1, 1) := by decide +kernel
theorem d_Mo_bestOf_95 : decode prog_12_method_53_code 95 = .ok (.invokevirtual 277, 3) := by decide +kernel
theorem d_Mo_bestOf_98 : decode prog_12_method_53_code 98 = .ok (.iinc 2 (1), 3) := by decide +kernel
theorem d_Mo_bestOf_101 : decode prog_12_method_53_code 101 = .ok (.goto (-28), 3) := by decide +kernel
theorem d_Mo_bestOf_104 : decode prog_12_method_53_code 104 = .ok (.iconst 0, 1) := by decide +kernel
theorem d_Mo_bestOf_105 : decode prog_12_method_53_code 105 = .ok (.istore_n 2, 1) := by decide +kernel
theorem d_Mo_bestOf_106 : decode prog_12_method_53_code 106 = .ok (.iload_n 2, 1) := by decide +kernel
theorem d_Mo_bestOf_107 : decode prog_12_method_53_code 107 = .ok (.iconst 5, 1) := by decide +kernel
theorem d_Mo_bestOf_108 : decode prog_12_method_53_code 108 = .ok (.if_icmp .ge (20), 3) := by decide +kernel
theorem d_Mo_bestOf_111 : decode prog_12_method_53_code 111 = .ok (.aload_n 0, 1) := by decide +kernel
theorem d_Mo_bestOf_112 : decode prog_12_method_53_code 112 = .ok (.getfield 123, 3) := by decide +kernel
theorem d_Mo_bestOf_115 : decode prog_12_method_53_code 115 = .ok (.iload_n 2, 1) := by decide +kernel
theorem d_Mo_bestOf_116 : decode prog_12_method_53_code 116 = .ok (.baload, 1) := by decide +kernel
theorem d_Mo_bestOf_117 : decode prog_12_method_53_code 117 = .ok (.ifCond .eq (5), 3) := by decide +kernel
theorem d_Mo_bestOf_120 : decode prog_12_method_53_code 120 = .ok (.iload_n 2, 1) := by decide +kernel
theorem d_Mo_bestOf_121 : decode prog_12_method_53_code 121 = .ok (.ireturn, 1) := by decide +kernel
theorem d_Mo_bestOf_122 : decode prog_12_method_53_code 122 = .ok (.iinc 2 (1), 3) := by decide +kernel
theorem d_Mo_bestOf_125 : decode prog_12_method_53_code 125 = .ok (.goto (-19), 3) := by decide +kernel
theorem d_Mo_bestOf_128 : decode prog_12_method_53_code 128 = .ok (.iconst (-1), 1) := by decide +kernel
theorem d_Mo_bestOf_129 : decode prog_12_method_53_code 129 = .ok (.ireturn, 1) := by decide +kernel
def G_Mo_bestOf_106 (N : Nat → Nat) (Q : Int32 → rs_Mem → Prop) (K106 : Nat → Int32 → rs_Mem → Prop) (v0 : Nat) (x2 : Int32) (σ : rs_Mem) : Prop :=
  (((5 : Int32) ≤ x2 → (Q (-1 : Int32) σ)) ∧ (¬ ((5 : Int32) ≤ x2) → (vp_in x2 (N (rs_R σ v0 40)) ∧ (((rs_I σ (rs_R σ v0 40) x2.toNatClampNeg) = 0 → (∀ x53 : Int32, x53 = x2 + (1 : Int32) → (K106 v0 x53 σ))) ∧ (¬ ((rs_I σ (rs_R σ v0 40) x2.toNatClampNeg) = 0) → (Q x2 σ))))))
noncomputable def L_Mo_bestOf_106 (N : Nat → Nat) (Q : Int32 → rs_Mem → Prop) (n : Nat) : Nat → Int32 → rs_Mem → Prop := Nat.rec (motive := fun _ => Nat → Int32 → rs_Mem → Prop) (fun _ _ _ => False) (fun _ K => G_Mo_bestOf_106 N Q K) n
def G_Mo_bestOf_73 (N : Nat → Nat) (Q : Int32 → rs_Mem → Prop) (K73 : Nat → Int32 → Int32 → rs_Mem → Prop) (v0 : Nat) (x1 : Int32) (x2 : Int32) (σ : rs_Mem) : Prop :=
  (((8 : Int32) ≤ x2 → (∃ n : Nat, L_Mo_bestOf_106 N Q n v0 (0 : Int32) σ)) ∧ (¬ ((8 : Int32) ≤ x2) → ((¬ (x2 = (3 : Int32)) → (F_Mo_keepLeast N v0 x2 x1 σ (fun σ51 => (∀ x52 : Int32, x52 = x2 + (1 : Int32) → (K73 v0 x1 x52 σ51))))) ∧ (x2 = (3 : Int32) → (F_Mo_dropBeaten N v0 x1 σ (fun σ51 => (∀ x52 : Int32, x52 = x2 + (1 : Int32) → (K73 v0 x1 x52 σ51))))))))
noncomputable def L_Mo_bestOf_73 (N : Nat → Nat) (Q : Int32 → rs_Mem → Prop) (n : Nat) : Nat → Int32 → Int32 → rs_Mem → Prop := Nat.rec (motive := fun _ => Nat → Int32 → Int32 → rs_Mem → Prop) (fun _ _ _ _ => False) (fun _ K => G_Mo_bestOf_73 N Q K) n
def B_Mo_bestOf_59 (N : Nat → Nat) (K2 : Nat → Int32 → Int32 → rs_Mem → Prop) (Q : Int32 → rs_Mem → Prop) (v0 : Nat) (x1 : Int32) (x2 : Int32) (w0 : Nat) (y1 : Int32) (σ : rs_Mem) : Prop :=
  (vp_in y1 (N w0) ∧ ∀ σ52 : rs_Mem, σ52 = rs_sI σ w0 y1.toNatClampNeg (1 : Int32) → (∀ x53 : Int32, x53 = x2 + (1 : Int32) → (K2 v0 x1 x53 σ52)))
def B_Mo_bestOf_63 (N : Nat → Nat) (K2 : Nat → Int32 → Int32 → rs_Mem → Prop) (Q : Int32 → rs_Mem → Prop) (v0 : Nat) (x1 : Int32) (x2 : Int32) (w0 : Nat) (y1 : Int32) (σ : rs_Mem) : Prop :=
  (vp_in y1 (N w0) ∧ ∀ σ52 : rs_Mem, σ52 = rs_sI σ w0 y1.toNatClampNeg (0 : Int32) → (∀ x53 : Int32, x53 = x2 + (1 : Int32) → (K2 v0 x1 x53 σ52)))
def G_Mo_bestOf_2 (N : Nat → Nat) (Q : Int32 → rs_Mem → Prop) (K2 : Nat → Int32 → Int32 → rs_Mem → Prop) (v0 : Nat) (x1 : Int32) (x2 : Int32) (σ : rs_Mem) : Prop :=
  (((5 : Int32) ≤ x2 → (∃ n : Nat, L_Mo_bestOf_73 N Q n v0 x1 (0 : Int32) σ)) ∧ (¬ ((5 : Int32) ≤ x2) → (∀ x51 : Int32, x51 = (((12 : Int32) * x2) + x1) → (vp_in x51 (N (rs_R σ v0 24)) ∧ (((rs_I σ (rs_R σ v0 24) x51.toNatClampNeg) = 0 → (B_Mo_bestOf_63 N K2 Q v0 x1 x2 (rs_R σ v0 40) x2 σ)) ∧ (¬ ((rs_I σ (rs_R σ v0 24) x51.toNatClampNeg) = 0) → ((x2 = (4 : Int32) → (B_Mo_bestOf_59 N K2 Q v0 x1 x2 (rs_R σ v0 40) x2 σ)) ∧ (¬ (x2 = (4 : Int32)) → (F_Mo_isBarred N v0 x51 σ (fun x56 σ55 => ((¬ (x56 = 0) → (B_Mo_bestOf_63 N K2 Q v0 x1 x2 (rs_R σ v0 40) x2 σ55)) ∧ (x56 = 0 → (vp_in x51 (N (rs_R σ55 v0 35)) ∧ ((¬ ((rs_I σ55 (rs_R σ55 v0 35) x51.toNatClampNeg) = 0) → (B_Mo_bestOf_63 N K2 Q v0 x1 x2 (rs_R σ v0 40) x2 σ55)) ∧ ((rs_I σ55 (rs_R σ55 v0 35) x51.toNatClampNeg) = 0 → (F_Mo_isRejected N v0 x2 x1 σ55 (fun x60 σ59 => ((¬ (x60 = 0) → (B_Mo_bestOf_63 N K2 Q v0 x1 x2 (rs_R σ v0 40) x2 σ59)) ∧ (x60 = 0 → (B_Mo_bestOf_59 N K2 Q v0 x1 x2 (rs_R σ v0 40) x2 σ59))))))))))))))))))))
noncomputable def L_Mo_bestOf_2 (N : Nat → Nat) (Q : Int32 → rs_Mem → Prop) (n : Nat) : Nat → Int32 → Int32 → rs_Mem → Prop := Nat.rec (motive := fun _ => Nat → Int32 → Int32 → rs_Mem → Prop) (fun _ _ _ _ => False) (fun _ K => G_Mo_bestOf_2 N Q K) n
def F_Mo_bestOf (N : Nat → Nat) (v0 : Nat) (x1 : Int32) (σ : rs_Mem) (Q : Int32 → rs_Mem → Prop) : Prop :=
  (∃ n : Nat, L_Mo_bestOf_2 N Q n v0 x1 (0 : Int32) σ)
set_option maxRecDepth 20000 in
theorem JL_Mo_bestOf_106 {p : Program} {l : Launch} {e : Env} {s : State} {m : MethodId} {args : Array Value} {below : List Frame} {meth : Method} {c : Code} {G : rs_G} {Bm : Nat} {S : rs_Shp} {Q : Int32 → rs_Mem → Prop} (C : rs_C "RouteSpeakerModel" prog_12_method_53_code 4 (some .int) G p s m meth c args) : ∀ n : Nat, ∀ (v0 : Nat) (x2 : Int32) (σ : rs_Mem) (H : Heap) (locs : List Loc) (ls : Array Slot), rs_Ok S 11 v0 → rs_H G Bm S σ H → rs_T S σ → va_S (rs_A Bm) s.heap H locs → lv_has ls 4 [(0, .ref (Bm + v0)), (2, .int x2)] → (L_Mo_bestOf_106 S.2.2 Q n) v0 x2 σ → W p l e { frames := 5, cells := 0, slots := 0, locals := 115 } s m args below meth c H locs 0 0 (MQ below (rs_Qi G Bm S Q) args s 0 0 (rs_A Bm)) (F0 m 106 ls []) := by
  have hx := C.1
  have hb := C.2.1
  intro n
  induction n with
  | zero => intros; rename_i hF; exact hF.elim
  | succ n hK106 =>
    intro v0 x2 σ H locs ls h_v0 hH hT hS hl hF
    replace hF : G_Mo_bestOf_106 S.2.2 Q (L_Mo_bestOf_106 S.2.2 Q n) v0 x2 σ := hF
    unfold G_Mo_bestOf_106 at hF
    refine lv_iload_n hx hb d_Mo_bestOf_106 rfl (lv_at hl 1 rfl) ?_
    refine lv_iconst hx hb d_Mo_bestOf_107 ki_5 ?_
    refine lv_icmp_ge hx hb d_Mo_bestOf_108 (tgt := 128) rfl (fun hc => ?_) (fun hc => ?_)
    · replace hF := hF.1 hc
      refine lv_iconst hx hb d_Mo_bestOf_128 ki_m1 ?_
      exact rs_iret C hH hT hS hF d_Mo_bestOf_129
    · replace hF := hF.2 hc
      refine lv_aload_n hx hb d_Mo_bestOf_111 rfl (lv_at hl 0 rfl) ?_
      refine rs_getR C hH hT h_v0 fk_11_40 tw_939 d_Mo_bestOf_112 (fun h51 => ?_)
      refine lv_iload_n hx hb d_Mo_bestOf_115 rfl (lv_at hl 1 rfl) ?_
      obtain ⟨g52, hF⟩ := hF
      refine rs_zald C hH h51 g52 d_Mo_bestOf_116 ?_
      refine lv_if_eq hx hb d_Mo_bestOf_117 (tgt := 122) rfl (fun hc => ?_) (fun hc => ?_)
      · replace hF := hF.1 hc
        obtain ⟨x53, ex53⟩ : ∃ z : Int32, z = x2 + (1 : Int32) := ⟨_, rfl⟩
        replace hF := hF x53 ex53
        refine lv_iinc hx hb d_Mo_bestOf_122 hl (k := 1) rfl (v := x53) (by rw [ki_1, ex53]) (by decide) (lv' := [(2, .int x53), (0, .ref (Bm + v0))]) rfl (fun ls hl => ?_)
        refine lv_goto hx hb d_Mo_bestOf_125 (tgt := 106) rfl ?_
        exact hK106 v0 x53 σ _ _ _ h_v0 hH hT hS (lv_sub hl [1, 0] rfl) hF
      · replace hF := hF.2 hc
        refine lv_iload_n hx hb d_Mo_bestOf_120 rfl (lv_at hl 1 rfl) ?_
        exact rs_iret C hH hT hS hF d_Mo_bestOf_121
set_option maxRecDepth 20000 in
theorem JL_Mo_bestOf_73 {p : Program} {l : Launch} {e : Env} {s : State} {m : MethodId} {args : Array Value} {below : List Frame} {meth : Method} {c : Code} {G : rs_G} {Bm : Nat} {S : rs_Shp} {Q : Int32 → rs_Mem → Prop} (C : rs_C "RouteSpeakerModel" prog_12_method_53_code 4 (some .int) G p s m meth c args) : ∀ n : Nat, ∀ (v0 : Nat) (x1 : Int32) (x2 : Int32) (σ : rs_Mem) (H : Heap) (locs : List Loc) (ls : Array Slot), rs_Ok S 11 v0 → rs_H G Bm S σ H → rs_T S σ → va_S (rs_A Bm) s.heap H locs → lv_has ls 4 [(0, .ref (Bm + v0)), (1, .int x1), (2, .int x2)] → (L_Mo_bestOf_73 S.2.2 Q n) v0 x1 x2 σ → W p l e { frames := 5, cells := 0, slots := 0, locals := 115 } s m args below meth c H locs 0 0 (MQ below (rs_Qi G Bm S Q) args s 0 0 (rs_A Bm)) (F0 m 73 ls []) := by
  have hx := C.1
  have hb := C.2.1
  intro n
  induction n with
  | zero => intros; rename_i hF; exact hF.elim
  | succ n hK73 =>
    intro v0 x1 x2 σ H locs ls h_v0 hH hT hS hl hF
    replace hF : G_Mo_bestOf_73 S.2.2 Q (L_Mo_bestOf_73 S.2.2 Q n) v0 x1 x2 σ := hF
    unfold G_Mo_bestOf_73 at hF
    refine lv_iload_n hx hb d_Mo_bestOf_73 rfl (lv_at hl 2 rfl) ?_
    refine lv_bipush hx hb d_Mo_bestOf_74 kb_8 ?_
    refine lv_icmp_ge hx hb d_Mo_bestOf_76 (tgt := 104) rfl (fun hc => ?_) (fun hc => ?_)
    · replace hF := hF.1 hc
      refine lv_iconst hx hb d_Mo_bestOf_104 ki_0 ?_
      refine lv_istore_n hx hb d_Mo_bestOf_105 rfl hl (by decide) (lv' := [(2, .int (0 : Int32)), (0, .ref (Bm + v0)), (1, .int x1)]) rfl (fun ls hl => ?_)
      obtain ⟨n, hF⟩ := hF
      exact JL_Mo_bestOf_106 C n v0 (0 : Int32) σ _ _ _ h_v0 hH hT hS (lv_sub hl [1, 0] rfl) hF
    · replace hF := hF.2 hc
      refine lv_iload_n hx hb d_Mo_bestOf_79 rfl (lv_at hl 2 rfl) ?_
      refine lv_iconst hx hb d_Mo_bestOf_80 ki_3 ?_
      refine lv_icmp_ne hx hb d_Mo_bestOf_81 (tgt := 92) rfl (fun hc => ?_) (fun hc => ?_)
      · replace hF := hF.1 hc
        refine lv_aload_n hx hb d_Mo_bestOf_92 rfl (lv_at hl 0 rfl) ?_
        refine lv_iload_n hx hb d_Mo_bestOf_93 rfl (lv_at hl 2 rfl) ?_
        refine lv_iload_n hx hb d_Mo_bestOf_94 rfl (lv_at hl 1 rfl) ?_
        refine rs_cv (rs_runV C hH hT hl (J_Mo_keepLeast l h_v0 hF) rc_Mo_keepLeast tw_1079 tw_1081 ts_43 h_v0 ⟨rfl, by decide, by decide⟩ rfl ⟨⟨rfl, rfl⟩, by decide, by decide, by decide⟩ (Nat.le_of_ble_eq_true rfl) rfl d_Mo_bestOf_95) hS (fun σ51 H locs hH hT hS hF => ?_)
        obtain ⟨x52, ex52⟩ : ∃ z : Int32, z = x2 + (1 : Int32) := ⟨_, rfl⟩
        replace hF := hF x52 ex52
        refine lv_iinc hx hb d_Mo_bestOf_98 hl (k := 2) rfl (v := x52) (by rw [ki_1, ex52]) (by decide) (lv' := [(2, .int x52), (0, .ref (Bm + v0)), (1, .int x1)]) rfl (fun ls hl => ?_)
        refine lv_goto hx hb d_Mo_bestOf_101 (tgt := 73) rfl ?_
        exact hK73 v0 x1 x52 σ51 _ _ _ h_v0 hH hT hS (lv_sub hl [1, 2, 0] rfl) hF
      · replace hF := hF.2 hc
        refine lv_aload_n hx hb d_Mo_bestOf_84 rfl (lv_at hl 0 rfl) ?_
        refine lv_iload_n hx hb d_Mo_bestOf_85 rfl (lv_at hl 1 rfl) ?_
        refine rs_cv (rs_runV C hH hT hl (J_Mo_dropBeaten l h_v0 hF) rc_Mo_dropBeaten tw_1067 tw_1069 ts_40 h_v0 ⟨rfl, by decide, by decide⟩ rfl ⟨⟨rfl, rfl⟩, by decide, by decide, by decide⟩ (Nat.le_of_ble_eq_true rfl) rfl d_Mo_bestOf_86) hS (fun σ51 H locs hH hT hS hF => ?_)
        refine lv_goto hx hb d_Mo_bestOf_89 (tgt := 98) rfl ?_
        obtain ⟨x52, ex52⟩ : ∃ z : Int32, z = x2 + (1 : Int32) := ⟨_, rfl⟩
        replace hF := hF x52 ex52
        refine lv_iinc hx hb d_Mo_bestOf_98 hl (k := 2) rfl (v := x52) (by rw [ki_1, ex52]) (by decide) (lv' := [(2, .int x52), (0, .ref (Bm + v0)), (1, .int x1)]) rfl (fun ls hl => ?_)
        refine lv_goto hx hb d_Mo_bestOf_101 (tgt := 73) rfl ?_
        exact hK73 v0 x1 x52 σ51 _ _ _ h_v0 hH hT hS (lv_sub hl [1, 2, 0] rfl) hF
set_option maxRecDepth 20000 in
theorem JB_Mo_bestOf_59 {p : Program} {l : Launch} {e : Env} {s : State} {m : MethodId} {args : Array Value} {below : List Frame} {meth : Method} {c : Code} {G : rs_G} {Bm : Nat} {S : rs_Shp} {K2 : Nat → Int32 → Int32 → rs_Mem → Prop} {Q : Int32 → rs_Mem → Prop} (C : rs_C "RouteSpeakerModel" prog_12_method_53_code 4 (some .int) G p s m meth c args) (hK2 : ∀ (v0 : Nat) (x1 : Int32) (x2 : Int32) (σ : rs_Mem) (H : Heap) (locs : List Loc) (ls : Array Slot), rs_Ok S 11 v0 → rs_H G Bm S σ H → rs_T S σ → va_S (rs_A Bm) s.heap H locs → lv_has ls 4 [(0, .ref (Bm + v0)), (1, .int x1), (2, .int x2)] → K2 v0 x1 x2 σ → W p l e { frames := 5, cells := 0, slots := 0, locals := 115 } s m args below meth c H locs 0 0 (MQ below (rs_Qi G Bm S Q) args s 0 0 (rs_A Bm)) (F0 m 2 ls [])) (v0 : Nat) (x1 : Int32) (x2 : Int32) (w0 : Nat) (y1 : Int32) (σ : rs_Mem) (H : Heap) (locs : List Loc) (ls : Array Slot) (h_v0 : rs_Ok S 11 v0) (h_w0 : rs_Ok S 21 w0) (hH : rs_H G Bm S σ H) (hT : rs_T S σ) (hS : va_S (rs_A Bm) s.heap H locs) (hl : lv_has ls 4 [(0, .ref (Bm + v0)), (1, .int x1), (2, .int x2)]) (hF : B_Mo_bestOf_59 S.2.2 K2 Q v0 x1 x2 w0 y1 σ) :
    W p l e { frames := 5, cells := 0, slots := 0, locals := 115 } s m args below meth c H locs 0 0 (MQ below (rs_Qi G Bm S Q) args s 0 0 (rs_A Bm)) (F0 m 59 ls [.int y1, .ref (Bm + w0)]) := by
  have hx := C.1
  have hb := C.2.1
  unfold B_Mo_bestOf_59 at hF
  refine lv_iconst hx hb d_Mo_bestOf_59 ki_1 ?_
  refine lv_goto hx hb d_Mo_bestOf_60 (tgt := 64) rfl ?_
  obtain ⟨g51, hF⟩ := hF
  refine rs_zast C hH hT hS (by decide) h_w0 g51 d_Mo_bestOf_64 (fun σ52 H locs eσ52 hH hT hS => ?_)
  replace hF := hF σ52 eσ52
  obtain ⟨x53, ex53⟩ : ∃ z : Int32, z = x2 + (1 : Int32) := ⟨_, rfl⟩
  replace hF := hF x53 ex53
  refine lv_iinc hx hb d_Mo_bestOf_65 hl (k := 2) rfl (v := x53) (by rw [ki_1, ex53]) (by decide) (lv' := [(2, .int x53), (0, .ref (Bm + v0)), (1, .int x1)]) rfl (fun ls hl => ?_)
  refine lv_goto hx hb d_Mo_bestOf_68 (tgt := 2) rfl ?_
  exact hK2 v0 x1 x53 σ52 _ _ _ h_v0 hH hT hS (lv_sub hl [1, 2, 0] rfl) hF
set_option maxRecDepth 20000 in
theorem JB_Mo_bestOf_63 {p : Program} {l : Launch} {e : Env} {s : State} {m : MethodId} {args : Array Value} {below : List Frame} {meth : Method} {c : Code} {G : rs_G} {Bm : Nat} {S : rs_Shp} {K2 : Nat → Int32 → Int32 → rs_Mem → Prop} {Q : Int32 → rs_Mem → Prop} (C : rs_C "RouteSpeakerModel" prog_12_method_53_code 4 (some .int) G p s m meth c args) (hK2 : ∀ (v0 : Nat) (x1 : Int32) (x2 : Int32) (σ : rs_Mem) (H : Heap) (locs : List Loc) (ls : Array Slot), rs_Ok S 11 v0 → rs_H G Bm S σ H → rs_T S σ → va_S (rs_A Bm) s.heap H locs → lv_has ls 4 [(0, .ref (Bm + v0)), (1, .int x1), (2, .int x2)] → K2 v0 x1 x2 σ → W p l e { frames := 5, cells := 0, slots := 0, locals := 115 } s m args below meth c H locs 0 0 (MQ below (rs_Qi G Bm S Q) args s 0 0 (rs_A Bm)) (F0 m 2 ls [])) (v0 : Nat) (x1 : Int32) (x2 : Int32) (w0 : Nat) (y1 : Int32) (σ : rs_Mem) (H : Heap) (locs : List Loc) (ls : Array Slot) (h_v0 : rs_Ok S 11 v0) (h_w0 : rs_Ok S 21 w0) (hH : rs_H G Bm S σ H) (hT : rs_T S σ) (hS : va_S (rs_A Bm) s.heap H locs) (hl : lv_has ls 4 [(0, .ref (Bm + v0)), (1, .int x1), (2, .int x2)]) (hF : B_Mo_bestOf_63 S.2.2 K2 Q v0 x1 x2 w0 y1 σ) :
    W p l e { frames := 5, cells := 0, slots := 0, locals := 115 } s m args below meth c H locs 0 0 (MQ below (rs_Qi G Bm S Q) args s 0 0 (rs_A Bm)) (F0 m 63 ls [.int y1, .ref (Bm + w0)]) := by
  have hx := C.1
  have hb := C.2.1
  unfold B_Mo_bestOf_63 at hF
  refine lv_iconst hx hb d_Mo_bestOf_63 ki_0 ?_
  obtain ⟨g51, hF⟩ := hF
  refine rs_zast C hH hT hS (by decide) h_w0 g51 d_Mo_bestOf_64 (fun σ52 H locs eσ52 hH hT hS => ?_)
  replace hF := hF σ52 eσ52
  obtain ⟨x53, ex53⟩ : ∃ z : Int32, z = x2 + (1 : Int32) := ⟨_, rfl⟩
  replace hF := hF x53 ex53
  refine lv_iinc hx hb d_Mo_bestOf_65 hl (k := 2) rfl (v := x53) (by rw [ki_1, ex53]) (by decide) (lv' := [(2, .int x53), (0, .ref (Bm + v0)), (1, .int x1)]) rfl (fun ls hl => ?_)
  refine lv_goto hx hb d_Mo_bestOf_68 (tgt := 2) rfl ?_
  exact hK2 v0 x1 x53 σ52 _ _ _ h_v0 hH hT hS (lv_sub hl [1, 2, 0] rfl) hF
set_option maxRecDepth 20000 in
theorem JL_Mo_bestOf_2 {p : Program} {l : Launch} {e : Env} {s : State} {m : MethodId} {args : Array Value} {below : List Frame} {meth : Method} {c : Code} {G : rs_G} {Bm : Nat} {S : rs_Shp} {Q : Int32 → rs_Mem → Prop} (C : rs_C "RouteSpeakerModel" prog_12_method_53_code 4 (some .int) G p s m meth c args) : ∀ n : Nat, ∀ (v0 : Nat) (x1 : Int32) (x2 : Int32) (σ : rs_Mem) (H : Heap) (locs : List Loc) (ls : Array Slot), rs_Ok S 11 v0 → rs_H G Bm S σ H → rs_T S σ → va_S (rs_A Bm) s.heap H locs → lv_has ls 4 [(0, .ref (Bm + v0)), (1, .int x1), (2, .int x2)] → (L_Mo_bestOf_2 S.2.2 Q n) v0 x1 x2 σ → W p l e { frames := 5, cells := 0, slots := 0, locals := 115 } s m args below meth c H locs 0 0 (MQ below (rs_Qi G Bm S Q) args s 0 0 (rs_A Bm)) (F0 m 2 ls []) := by
  have hx := C.1
  have hb := C.2.1
  intro n
  induction n with
  | zero => intros; rename_i hF; exact hF.elim
  | succ n hK2 =>
    intro v0 x1 x2 σ H locs ls h_v0 hH hT hS hl hF
    replace hF : G_Mo_bestOf_2 S.2.2 Q (L_Mo_bestOf_2 S.2.2 Q n) v0 x1 x2 σ := hF
    unfold G_Mo_bestOf_2 at hF
    refine lv_iload_n hx hb d_Mo_bestOf_2 rfl (lv_at hl 2 rfl) ?_
    refine lv_iconst hx hb d_Mo_bestOf_3 ki_5 ?_
    refine lv_icmp_ge hx hb d_Mo_bestOf_4 (tgt := 71) rfl (fun hc => ?_) (fun hc => ?_)
    · replace hF := hF.1 hc
      refine lv_iconst hx hb d_Mo_bestOf_71 ki_0 ?_
      refine lv_istore_n hx hb d_Mo_bestOf_72 rfl hl (by decide) (lv' := [(2, .int (0 : Int32)), (0, .ref (Bm + v0)), (1, .int x1)]) rfl (fun ls hl => ?_)
      obtain ⟨n, hF⟩ := hF
      exact JL_Mo_bestOf_73 C n v0 x1 (0 : Int32) σ _ _ _ h_v0 hH hT hS (lv_sub hl [1, 2, 0] rfl) hF
    · replace hF := hF.2 hc
      refine lv_bipush hx hb d_Mo_bestOf_7 kb_12 ?_
      refine lv_iload_n hx hb d_Mo_bestOf_9 rfl (lv_at hl 2 rfl) ?_
      refine lv_imul hx hb d_Mo_bestOf_10 ?_
      refine lv_iload_n hx hb d_Mo_bestOf_11 rfl (lv_at hl 1 rfl) ?_
      refine lv_iadd hx hb d_Mo_bestOf_12 ?_
      refine lv_topi (fun x51 ex51 => ?_)
      replace hF := hF x51 ex51
      refine lv_istore_n hx hb d_Mo_bestOf_13 rfl hl (by decide) (lv' := [(3, .int x51), (0, .ref (Bm + v0)), (1, .int x1), (2, .int x2)]) rfl (fun ls hl => ?_)
      refine lv_aload_n hx hb d_Mo_bestOf_14 rfl (lv_at hl 1 rfl) ?_
      refine rs_getR C hH hT h_v0 fk_11_40 tw_939 d_Mo_bestOf_15 (fun h52 => ?_)
      refine lv_iload_n hx hb d_Mo_bestOf_18 rfl (lv_at hl 3 rfl) ?_
      refine lv_aload_n hx hb d_Mo_bestOf_19 rfl (lv_at hl 1 rfl) ?_
      refine rs_getR C hH hT h_v0 fk_11_24 tw_923 d_Mo_bestOf_20 (fun h53 => ?_)
      refine lv_iload_n hx hb d_Mo_bestOf_23 rfl (lv_at hl 0 rfl) ?_
      obtain ⟨g54, hF⟩ := hF
      refine rs_zald C hH h53 g54 d_Mo_bestOf_24 ?_
      refine lv_if_eq hx hb d_Mo_bestOf_25 (tgt := 63) rfl (fun hc => ?_) (fun hc => ?_)
      · replace hF := hF.1 hc
        exact JB_Mo_bestOf_63 C hK2 v0 x1 x2 (rs_R σ v0 40) x2 σ _ _ _ h_v0 h52 hH hT hS (lv_sub hl [1, 2, 3] rfl) hF
      · replace hF := hF.2 hc
        refine lv_iload_n hx hb d_Mo_bestOf_28 rfl (lv_at hl 3 rfl) ?_
        refine lv_iconst hx hb d_Mo_bestOf_29 ki_4 ?_
        refine lv_icmp_eq hx hb d_Mo_bestOf_30 (tgt := 59) rfl (fun hc => ?_) (fun hc => ?_)
        · replace hF := hF.1 hc
          exact JB_Mo_bestOf_59 C hK2 v0 x1 x2 (rs_R σ v0 40) x2 σ _ _ _ h_v0 h52 hH hT hS (lv_sub hl [1, 2, 3] rfl) hF
        · replace hF := hF.2 hc
          refine lv_aload_n hx hb d_Mo_bestOf_33 rfl (lv_at hl 1 rfl) ?_
          refine lv_iload_n hx hb d_Mo_bestOf_34 rfl (lv_at hl 0 rfl) ?_
          refine rs_ci (rs_runV C hH hT hl (J_Mo_isBarred l h_v0 hF) rc_Mo_isBarred tw_1053 tw_1055 ts_38 h_v0 ⟨rfl, by decide, by decide⟩ rfl ⟨⟨rfl, rfl⟩, by decide, by decide, by decide⟩ (Nat.le_of_ble_eq_true rfl) rfl d_Mo_bestOf_35) hS (fun x56 σ55 H locs hH hT hS hF => ?_)
          refine lv_if_ne hx hb d_Mo_bestOf_38 (tgt := 63) rfl (fun hc => ?_) (fun hc => ?_)
          · replace hF := hF.1 hc
            exact JB_Mo_bestOf_63 C hK2 v0 x1 x2 (rs_R σ v0 40) x2 σ55 _ _ _ h_v0 h52 hH hT hS (lv_sub hl [1, 2, 3] rfl) hF
          · replace hF := hF.2 hc
            refine lv_aload_n hx hb d_Mo_bestOf_41 rfl (lv_at hl 1 rfl) ?_
            refine rs_getR C hH hT h_v0 fk_11_35 tw_934 d_Mo_bestOf_42 (fun h57 => ?_)
            refine lv_iload_n hx hb d_Mo_bestOf_45 rfl (lv_at hl 0 rfl) ?_
            obtain ⟨g58, hF⟩ := hF
            refine rs_zald C hH h57 g58 d_Mo_bestOf_46 ?_
            refine lv_if_ne hx hb d_Mo_bestOf_47 (tgt := 63) rfl (fun hc => ?_) (fun hc => ?_)
            · replace hF := hF.1 hc
              exact JB_Mo_bestOf_63 C hK2 v0 x1 x2 (rs_R σ v0 40) x2 σ55 _ _ _ h_v0 h52 hH hT hS (lv_sub hl [1, 2, 3] rfl) hF
            · replace hF := hF.2 hc
              refine lv_aload_n hx hb d_Mo_bestOf_50 rfl (lv_at hl 1 rfl) ?_
              refine lv_iload_n hx hb d_Mo_bestOf_51 rfl (lv_at hl 3 rfl) ?_
              refine lv_iload_n hx hb d_Mo_bestOf_52 rfl (lv_at hl 2 rfl) ?_
              refine rs_ci (rs_runV C hH hT hl (J_Mo_isRejected l h_v0 hF) rc_Mo_isRejected tw_1057 tw_1059 ts_39 h_v0 ⟨rfl, by decide, by decide⟩ rfl ⟨⟨rfl, rfl⟩, by decide, by decide, by decide⟩ (Nat.le_of_ble_eq_true rfl) rfl d_Mo_bestOf_53) hS (fun x60 σ59 H locs hH hT hS hF => ?_)
              refine lv_if_ne hx hb d_Mo_bestOf_56 (tgt := 63) rfl (fun hc => ?_) (fun hc => ?_)
              · replace hF := hF.1 hc
                exact JB_Mo_bestOf_63 C hK2 v0 x1 x2 (rs_R σ v0 40) x2 σ59 _ _ _ h_v0 h52 hH hT hS (lv_sub hl [1, 2, 3] rfl) hF
              · replace hF := hF.2 hc
                exact JB_Mo_bestOf_59 C hK2 v0 x1 x2 (rs_R σ v0 40) x2 σ59 _ _ _ h_v0 h52 hH hT hS (lv_sub hl [1, 2, 3] rfl) hF
abbrev y_Mo_bestOf : MethodName := ({ cls := "RouteSpeakerModel", name := "bestOf", desc := "(I)I" } : Jvm.MethodName)
theorem rc_Mo_bestOf : rs_Cal y_Mo_bestOf prog_12_method_53_code 4 (some .int) 1 := ⟨tw_1052, tw_11, by decide, by decide, by decide +kernel⟩
set_option maxRecDepth 20000 in
theorem J_Mo_bestOf (l : Launch) {G : rs_G} {Bm : Nat} {S : rs_Shp} {v0 : Nat} {x1 : Int32} {σ : rs_Mem} {Q : Int32 → rs_Mem → Prop} (h_v0 : rs_Ok S 11 v0) (hF : F_Mo_bestOf S.2.2 v0 x1 σ Q) :
    Met l y_Mo_bestOf (rs_ws y_Mo_bestOf prog_12_method_53_code 4 (some .int)) { frames := 5, cells := 0, slots := 0, locals := 115 } (rs_P G Bm S σ [.ref (Bm + v0), .int x1]) (rs_Qi G Bm S Q) 0 0 (rs_A Bm) := by
  refine rs_met (own := "RouteSpeakerModel") (by decide) rfl (Nat.le_of_ble_eq_true rfl) (fun p e s m below meth c ls C hl hH hT hS => ?_)
  replace hl : lv_has ls 4 [(0, .ref (Bm + v0)), (1, .int x1)] := hl
  have hx := C.1
  have hb := C.2.1
  unfold F_Mo_bestOf at hF
  refine lv_iconst hx hb d_Mo_bestOf_0 ki_0 ?_
  refine lv_istore_n hx hb d_Mo_bestOf_1 rfl hl (by decide) (lv' := [(2, .int (0 : Int32)), (0, .ref (Bm + v0)), (1, .int x1)]) rfl (fun ls hl => ?_)
  obtain ⟨n, hF⟩ := hF
  exact JL_Mo_bestOf_2 C n v0 x1 (0 : Int32) σ _ _ _ h_v0 hH hT hS (lv_sub hl [1, 2, 0] rfl) hF
/-! RouteSpeakerModel.want(II)V -/
theorem d_Mo_want_0 : decode prog_12_method_54_code 0 = .ok (.aload_n 0, 1) := by decide +kernel
theorem d_Mo_want_1 : decode prog_12_method_54_code 1 = .ok (.getfield 117, 3) := by decide +kernel
theorem d_Mo_want_4 : decode prog_12_method_54_code 4 = .ok (.iload_n 1, 1) := by decide +kernel
theorem d_Mo_want_5 : decode prog_12_method_54_code 5 = .ok (.iload_n 2, 1) := by decide +kernel
theorem d_Mo_want_6 : decode prog_12_method_54_code 6 = .ok (.iastore, 1) := by decide +kernel
theorem d_Mo_want_7 : decode prog_12_method_54_code 7 = .ok (.return_, 1) := by decide +kernel
def F_Mo_want (N : Nat → Nat) (v0 : Nat) (x1 : Int32) (x2 : Int32) (σ : rs_Mem) (Q : rs_Mem → Prop) : Prop :=
  (vp_in x1 (N (rs_R σ v0 38)) ∧ ∀ σ53 : rs_Mem, σ53 = rs_sI σ (rs_R σ v0 38) x1.toNatClampNeg x2 → (Q σ53))
abbrev y_Mo_want : MethodName := ({ cls := "RouteSpeakerModel", name := "want", desc := "(II)V" } : Jvm.MethodName)
theorem rc_Mo_want : rs_Cal y_Mo_want prog_12_method_54_code 3 none 2 := ⟨tw_1107, tw_11, by decide, by decide, by decide +kernel⟩
set_option maxRecDepth 20000 in
theorem J_Mo_want (l : Launch) {G : rs_G} {Bm : Nat} {S : rs_Shp} {v0 : Nat} {x1 : Int32} {x2 : Int32} {σ : rs_Mem} {Q : rs_Mem → Prop} (h_v0 : rs_Ok S 11 v0) (hF : F_Mo_want S.2.2 v0 x1 x2 σ Q) :
    Met l y_Mo_want (rs_ws y_Mo_want prog_12_method_54_code 3 none) { frames := 0, cells := 0, slots := 0, locals := 0 } (rs_P G Bm S σ [.ref (Bm + v0), .int x1, .int x2]) (rs_Qv G Bm S Q) 0 0 (rs_A Bm) := by
  refine rs_met (own := "RouteSpeakerModel") (by decide) rfl (Nat.le_of_ble_eq_true rfl) (fun p e s m below meth c ls C hl hH hT hS => ?_)
  replace hl : lv_has ls 3 [(0, .ref (Bm + v0)), (1, .int x1), (2, .int x2)] := hl
  have hx := C.1
  have hb := C.2.1
  unfold F_Mo_want at hF
  refine lv_aload_n hx hb d_Mo_want_0 rfl (lv_at hl 0 rfl) ?_
  refine rs_getR C hH hT h_v0 fk_11_38 tw_937 d_Mo_want_1 (fun h51 => ?_)
  refine lv_iload_n hx hb d_Mo_want_4 rfl (lv_at hl 1 rfl) ?_
  refine lv_iload_n hx hb d_Mo_want_5 rfl (lv_at hl 2 rfl) ?_
  obtain ⟨g52, hF⟩ := hF
  refine rs_iast C hH hT hS h51 g52 d_Mo_want_6 (fun σ53 H locs eσ53 hH hT hS => ?_)
  replace hF := hF σ53 eσ53
  exact rs_vret C hH hT hS hF d_Mo_want_7
/-! RouteSpeakerModel.one(III)I -/
theorem d_Mo_one_0 : decode prog_12_method_55_code 0 = .ok (.aload_n 0, 1) := by decide +kernel
theorem d_Mo_one_1 : decode prog_12_method_55_code 1 = .ok (.iload_n 1, 1) := by decide +kernel
theorem d_Mo_one_2 : decode prog_12_method_55_code 2 = .ok (.iload_n 2, 1) := by decide +kernel
theorem d_Mo_one_3 : decode prog_12_method_55_code 3 = .ok (.invokevirtual 280, 3) := by decide +kernel
theorem d_Mo_one_6 : decode prog_12_method_55_code 6 = .ok (.aload_n 0, 1) := by decide +kernel
theorem d_Mo_one_7 : decode prog_12_method_55_code 7 = .ok (.iload_n 1, 1) := by decide +kernel
theorem d_Mo_one_8 : decode prog_12_method_55_code 8 = .ok (.iconst 1, 1) := by decide +kernel
theorem d_Mo_one_9 : decode prog_12_method_55_code 9 = .ok (.iadd, 1) := by decide +kernel
theorem d_Mo_one_10 : decode prog_12_method_55_code 10 = .ok (.iconst 1, 1) := by decide +kernel
theorem d_Mo_one_11 : decode prog_12_method_55_code 11 = .ok (.invokevirtual 280, 3) := by decide +kernel
theorem d_Mo_one_14 : decode prog_12_method_55_code 14 = .ok (.aload_n 0, 1) := by decide +kernel
theorem d_Mo_one_15 : decode prog_12_method_55_code 15 = .ok (.iload_n 1, 1) := by decide +kernel
theorem d_Mo_one_16 : decode prog_12_method_55_code 16 = .ok (.iconst 2, 1) := by decide +kernel
theorem d_Mo_one_17 : decode prog_12_method_55_code 17 = .ok (.iadd, 1) := by decide +kernel
theorem d_Mo_one_18 : decode prog_12_method_55_code 18 = .ok (.iload_n 3, 1) := by decide +kernel
theorem d_Mo_one_19 : decode prog_12_method_55_code 19 = .ok (.invokevirtual 280, 3) := by decide +kernel
theorem d_Mo_one_22 : decode prog_12_method_55_code 22 = .ok (.iload_n 1, 1) := by decide +kernel
theorem d_Mo_one_23 : decode prog_12_method_55_code 23 = .ok (.iconst 3, 1) := by decide +kernel
theorem d_Mo_one_24 : decode prog_12_method_55_code 24 = .ok (.iadd, 1) := by decide +kernel
theorem d_Mo_one_25 : decode prog_12_method_55_code 25 = .ok (.ireturn, 1) := by decide +kernel
def F_Mo_one (N : Nat → Nat) (v0 : Nat) (x1 : Int32) (x2 : Int32) (x3 : Int32) (σ : rs_Mem) (Q : Int32 → rs_Mem → Prop) : Prop :=
  (F_Mo_want N v0 x1 x2 σ (fun σ51 => (F_Mo_want N v0 (x1 + (1 : Int32)) (1 : Int32) σ51 (fun σ52 => (F_Mo_want N v0 (x1 + (2 : Int32)) x3 σ52 (fun σ53 => (Q (x1 + (3 : Int32)) σ53)))))))
abbrev y_Mo_one : MethodName := ({ cls := "RouteSpeakerModel", name := "one", desc := "(III)I" } : Jvm.MethodName)
theorem rc_Mo_one : rs_Cal y_Mo_one prog_12_method_55_code 4 (some .int) 3 := ⟨tw_1103, tw_11, by decide, by decide, by decide +kernel⟩
set_option maxRecDepth 20000 in
theorem J_Mo_one (l : Launch) {G : rs_G} {Bm : Nat} {S : rs_Shp} {v0 : Nat} {x1 : Int32} {x2 : Int32} {x3 : Int32} {σ : rs_Mem} {Q : Int32 → rs_Mem → Prop} (h_v0 : rs_Ok S 11 v0) (hF : F_Mo_one S.2.2 v0 x1 x2 x3 σ Q) :
    Met l y_Mo_one (rs_ws y_Mo_one prog_12_method_55_code 4 (some .int)) { frames := 1, cells := 0, slots := 0, locals := 22 } (rs_P G Bm S σ [.ref (Bm + v0), .int x1, .int x2, .int x3]) (rs_Qi G Bm S Q) 0 0 (rs_A Bm) := by
  refine rs_met (own := "RouteSpeakerModel") (by decide) rfl (Nat.le_of_ble_eq_true rfl) (fun p e s m below meth c ls C hl hH hT hS => ?_)
  replace hl : lv_has ls 4 [(0, .ref (Bm + v0)), (1, .int x1), (2, .int x2), (3, .int x3)] := hl
  have hx := C.1
  have hb := C.2.1
  unfold F_Mo_one at hF
  refine lv_aload_n hx hb d_Mo_one_0 rfl (lv_at hl 0 rfl) ?_
  refine lv_iload_n hx hb d_Mo_one_1 rfl (lv_at hl 1 rfl) ?_
  refine lv_iload_n hx hb d_Mo_one_2 rfl (lv_at hl 2 rfl) ?_
  refine rs_cv (rs_runV C hH hT hl (J_Mo_want l h_v0 hF) rc_Mo_want tw_1104 tw_1106 ts_49 h_v0 ⟨rfl, by decide, by decide⟩ rfl ⟨⟨rfl, rfl⟩, by decide, by decide, by decide⟩ (Nat.le_of_ble_eq_true rfl) rfl d_Mo_one_3) hS (fun σ51 H locs hH hT hS hF => ?_)
  refine lv_aload_n hx hb d_Mo_one_6 rfl (lv_at hl 0 rfl) ?_
  refine lv_iload_n hx hb d_Mo_one_7 rfl (lv_at hl 1 rfl) ?_
  refine lv_iconst hx hb d_Mo_one_8 ki_1 ?_
  refine lv_iadd hx hb d_Mo_one_9 ?_
  refine lv_iconst hx hb d_Mo_one_10 ki_1 ?_
  refine rs_cv (rs_runV C hH hT hl (J_Mo_want l h_v0 hF) rc_Mo_want tw_1104 tw_1106 ts_49 h_v0 ⟨rfl, by decide, by decide⟩ rfl ⟨⟨rfl, rfl⟩, by decide, by decide, by decide⟩ (Nat.le_of_ble_eq_true rfl) rfl d_Mo_one_11) hS (fun σ52 H locs hH hT hS hF => ?_)
  refine lv_aload_n hx hb d_Mo_one_14 rfl (lv_at hl 0 rfl) ?_
  refine lv_iload_n hx hb d_Mo_one_15 rfl (lv_at hl 1 rfl) ?_
  refine lv_iconst hx hb d_Mo_one_16 ki_2 ?_
  refine lv_iadd hx hb d_Mo_one_17 ?_
  refine lv_iload_n hx hb d_Mo_one_18 rfl (lv_at hl 3 rfl) ?_
  refine rs_cv (rs_runV C hH hT hl (J_Mo_want l h_v0 hF) rc_Mo_want tw_1104 tw_1106 ts_49 h_v0 ⟨rfl, by decide, by decide⟩ rfl ⟨⟨rfl, rfl⟩, by decide, by decide, by decide⟩ (Nat.le_of_ble_eq_true rfl) rfl d_Mo_one_19) hS (fun σ53 H locs hH hT hS hF => ?_)
  refine lv_iload_n hx hb d_Mo_one_22 rfl (lv_at hl 1 rfl) ?_
  refine lv_iconst hx hb d_Mo_one_23 ki_3 ?_
  refine lv_iadd hx hb d_Mo_one_24 ?_
  exact rs_iret C hH hT hS hF d_Mo_one_25
