/-! RouteSpeaker$Rules.add(III)Z -/
theorem d_Ru_add_0 : decode prog_9_method_2_code 0 = .ok (.aload_n 0, 1) := by decide +kernel
theorem d_Ru_add_1 : decode prog_9_method_2_code 1 = .ok (.getfield 21, 3) := by decide +kernel
theorem d_Ru_add_4 : decode prog_9_method_2_code 4 = .ok (.iconst 3, 1) := by decide +kernel
theorem d_Ru_add_5 : decode prog_9_method_2_code 5 = .ok (.if_icmp .lt (5), 3) := by decide +kernel
theorem d_Ru_add_8 : decode prog_9_method_2_code 8 = .ok (.iconst 0, 1) := by decide +kernel
theorem d_Ru_add_9 : decode prog_9_method_2_code 9 = .ok (.ireturn, 1) := by decide +kernel
theorem d_Ru_add_10 : decode prog_9_method_2_code 10 = .ok (.aload_n 0, 1) := by decide +kernel
theorem d_Ru_add_11 : decode prog_9_method_2_code 11 = .ok (.getfield 9, 3) := by decide +kernel
theorem d_Ru_add_14 : decode prog_9_method_2_code 14 = .ok (.aload_n 0, 1) := by decide +kernel
theorem d_Ru_add_15 : decode prog_9_method_2_code 15 = .ok (.getfield 21, 3) := by decide +kernel
theorem d_Ru_add_18 : decode prog_9_method_2_code 18 = .ok (.iload_n 1, 1) := by decide +kernel
theorem d_Ru_add_19 : decode prog_9_method_2_code 19 = .ok (.iastore, 1) := by decide +kernel
theorem d_Ru_add_20 : decode prog_9_method_2_code 20 = .ok (.aload_n 0, 1) := by decide +kernel
theorem d_Ru_add_21 : decode prog_9_method_2_code 21 = .ok (.getfield 15, 3) := by decide +kernel
theorem d_Ru_add_24 : decode prog_9_method_2_code 24 = .ok (.aload_n 0, 1) := by decide +kernel
theorem d_Ru_add_25 : decode prog_9_method_2_code 25 = .ok (.getfield 21, 3) := by decide +kernel
theorem d_Ru_add_28 : decode prog_9_method_2_code 28 = .ok (.iload_n 2, 1) := by decide +kernel
theorem d_Ru_add_29 : decode prog_9_method_2_code 29 = .ok (.iastore, 1) := by decide +kernel
theorem d_Ru_add_30 : decode prog_9_method_2_code 30 = .ok (.aload_n 0, 1) := by decide +kernel
theorem d_Ru_add_31 : decode prog_9_method_2_code 31 = .ok (.getfield 18, 3) := by decide +kernel
theorem d_Ru_add_34 : decode prog_9_method_2_code 34 = .ok (.aload_n 0, 1) := by decide +kernel
theorem d_Ru_add_35 : decode prog_9_method_2_code 35 = .ok (.getfield 21, 3) := by decide +kernel
theorem d_Ru_add_38 : decode prog_9_method_2_code 38 = .ok (.iload_n 3, 1) := by decide +kernel
theorem d_Ru_add_39 : decode prog_9_method_2_code 39 = .ok (.iastore, 1) := by decide +kernel
theorem d_Ru_add_40 : decode prog_9_method_2_code 40 = .ok (.aload_n 0, 1) := by decide +kernel
theorem d_Ru_add_41 : decode prog_9_method_2_code 41 = .ok (.dup, 1) := by decide +kernel
theorem d_Ru_add_42 : decode prog_9_method_2_code 42 = .ok (.getfield 21, 3) := by decide +kernel
theorem d_Ru_add_45 : decode prog_9_method_2_code 45 = .ok (.iconst 1, 1) := by decide +kernel
theorem d_Ru_add_46 : decode prog_9_method_2_code 46 = .ok (.iadd, 1) := by decide +kernel
theorem d_Ru_add_47 : decode prog_9_method_2_code 47 = .ok (.putfield 21, 3) := by decide +kernel
theorem d_Ru_add_50 : decode prog_9_method_2_code 50 = .ok (.iconst 1, 1) := by decide +kernel
theorem d_Ru_add_51 : decode prog_9_method_2_code 51 = .ok (.ireturn, 1) := by decide +kernel
def F_Ru_add (N : Nat → Nat) (v0 : Nat) (x1 : Int32) (x2 : Int32) (x3 : Int32) (σ : rs_Mem) (Q : Int32 → rs_Mem → Prop) : Prop :=
  (((rs_I σ v0 3) < (3 : Int32) → (vp_in (rs_I σ v0 3) (N (rs_R σ v0 0)) ∧ ∀ σ53 : rs_Mem, σ53 = rs_sI σ (rs_R σ v0 0) (rs_I σ v0 3).toNatClampNeg x1 → (vp_in (rs_I σ53 v0 3) (N (rs_R σ53 v0 1)) ∧ ∀ σ56 : rs_Mem, σ56 = rs_sI σ53 (rs_R σ53 v0 1) (rs_I σ53 v0 3).toNatClampNeg x2 → (vp_in (rs_I σ56 v0 3) (N (rs_R σ56 v0 2)) ∧ ∀ σ59 : rs_Mem, σ59 = rs_sI σ56 (rs_R σ56 v0 2) (rs_I σ56 v0 3).toNatClampNeg x3 → (∀ σ60 : rs_Mem, σ60 = rs_sI σ59 v0 3 ((rs_I σ59 v0 3) + (1 : Int32)) → (Q (1 : Int32) σ60)))))) ∧ (¬ ((rs_I σ v0 3) < (3 : Int32)) → (Q (0 : Int32) σ)))
abbrev y_Ru_add : MethodName := ({ cls := "RouteSpeaker$Rules", name := "add", desc := "(III)Z" } : Jvm.MethodName)
theorem rc_Ru_add : rs_Cal y_Ru_add prog_9_method_2_code 4 (some .boolean) 3 := ⟨tw_631, tw_8, by decide, by decide, by decide +kernel⟩
set_option maxRecDepth 20000 in
theorem J_Ru_add (l : Launch) {G : rs_G} {Bm : Nat} {S : rs_Shp} {v0 : Nat} {x1 : Int32} {x2 : Int32} {x3 : Int32} {σ : rs_Mem} {Q : Int32 → rs_Mem → Prop} (h_v0 : rs_Ok S 9 v0) (hF : F_Ru_add S.2.2 v0 x1 x2 x3 σ Q) :
    Met l y_Ru_add (rs_ws y_Ru_add prog_9_method_2_code 4 (some .boolean)) { frames := 0, cells := 0, slots := 0, locals := 0 } (rs_P G Bm S σ [.ref (Bm + v0), .int x1, .int x2, .int x3]) (rs_Qi G Bm S Q) 0 0 (rs_A Bm) := by
  refine rs_met (own := "RouteSpeaker$Rules") (by decide) rfl (Nat.le_of_ble_eq_true rfl) (fun p e s m below meth c ls C hl hH hT hS => ?_)
  replace hl : lv_has ls 4 [(0, .ref (Bm + v0)), (1, .int x1), (2, .int x2), (3, .int x3)] := hl
  have hx := C.1
  have hb := C.2.1
  unfold F_Ru_add at hF
  refine lv_aload_n hx hb d_Ru_add_0 rfl (lv_at hl 0 rfl) ?_
  refine rs_getI C hH h_v0 fk_9_3 tw_201 d_Ru_add_1 ?_
  refine lv_iconst hx hb d_Ru_add_4 ki_3 ?_
  refine lv_icmp_lt hx hb d_Ru_add_5 (tgt := 10) rfl (fun hc => ?_) (fun hc => ?_)
  · replace hF := hF.1 hc
    refine lv_aload_n hx hb d_Ru_add_10 rfl (lv_at hl 0 rfl) ?_
    refine rs_getR C hH hT h_v0 fk_9_0 tw_198 d_Ru_add_11 (fun h51 => ?_)
    refine lv_aload_n hx hb d_Ru_add_14 rfl (lv_at hl 0 rfl) ?_
    refine rs_getI C hH h_v0 fk_9_3 tw_201 d_Ru_add_15 ?_
    refine lv_iload_n hx hb d_Ru_add_18 rfl (lv_at hl 1 rfl) ?_
    obtain ⟨g52, hF⟩ := hF
    refine rs_iast C hH hT hS h51 g52 d_Ru_add_19 (fun σ53 H locs eσ53 hH hT hS => ?_)
    replace hF := hF σ53 eσ53
    refine lv_aload_n hx hb d_Ru_add_20 rfl (lv_at hl 0 rfl) ?_
    refine rs_getR C hH hT h_v0 fk_9_1 tw_199 d_Ru_add_21 (fun h54 => ?_)
    refine lv_aload_n hx hb d_Ru_add_24 rfl (lv_at hl 0 rfl) ?_
    refine rs_getI C hH h_v0 fk_9_3 tw_201 d_Ru_add_25 ?_
    refine lv_iload_n hx hb d_Ru_add_28 rfl (lv_at hl 2 rfl) ?_
    obtain ⟨g55, hF⟩ := hF
    refine rs_iast C hH hT hS h54 g55 d_Ru_add_29 (fun σ56 H locs eσ56 hH hT hS => ?_)
    replace hF := hF σ56 eσ56
    refine lv_aload_n hx hb d_Ru_add_30 rfl (lv_at hl 0 rfl) ?_
    refine rs_getR C hH hT h_v0 fk_9_2 tw_200 d_Ru_add_31 (fun h57 => ?_)
    refine lv_aload_n hx hb d_Ru_add_34 rfl (lv_at hl 0 rfl) ?_
    refine rs_getI C hH h_v0 fk_9_3 tw_201 d_Ru_add_35 ?_
    refine lv_iload_n hx hb d_Ru_add_38 rfl (lv_at hl 3 rfl) ?_
    obtain ⟨g58, hF⟩ := hF
    refine rs_iast C hH hT hS h57 g58 d_Ru_add_39 (fun σ59 H locs eσ59 hH hT hS => ?_)
    replace hF := hF σ59 eσ59
    refine lv_aload_n hx hb d_Ru_add_40 rfl (lv_at hl 0 rfl) ?_
    refine lv_dup hx hb d_Ru_add_41 rfl ?_
    refine rs_getI C hH h_v0 fk_9_3 tw_201 d_Ru_add_42 ?_
    refine lv_iconst hx hb d_Ru_add_45 ki_1 ?_
    refine lv_iadd hx hb d_Ru_add_46 ?_
    refine rs_putI C hH hT hS h_v0 fk_9_3 rfl tw_201 d_Ru_add_47 (fun σ60 H locs eσ60 hH hT hS => ?_)
    replace hF := hF σ60 eσ60
    refine lv_iconst hx hb d_Ru_add_50 ki_1 ?_
    exact rs_zret C hH hT hS (by decide) hF d_Ru_add_51
  · replace hF := hF.2 hc
    refine lv_iconst hx hb d_Ru_add_8 ki_0 ?_
    exact rs_zret C hH hT hS (by decide) hF d_Ru_add_9
/-! RouteSpeaker.isWithin(IIII)Z -/
theorem d_Sp_isWithin_0 : decode prog_1_method_22_code 0 = .ok (.iload_n 0, 1) := by decide +kernel
theorem d_Sp_isWithin_1 : decode prog_1_method_22_code 1 = .ok (.iload_n 2, 1) := by decide +kernel
theorem d_Sp_isWithin_2 : decode prog_1_method_22_code 2 = .ok (.if_icmp .lt (18), 3) := by decide +kernel
theorem d_Sp_isWithin_5 : decode prog_1_method_22_code 5 = .ok (.iload_n 1, 1) := by decide +kernel
theorem d_Sp_isWithin_6 : decode prog_1_method_22_code 6 = .ok (.iload_n 3, 1) := by decide +kernel
theorem d_Sp_isWithin_7 : decode prog_1_method_22_code 7 = .ok (.ixor, 1) := by decide +kernel
theorem d_Sp_isWithin_8 : decode prog_1_method_22_code 8 = .ok (.sipush (255), 3) := by decide +kernel
theorem d_Sp_isWithin_11 : decode prog_1_method_22_code 11 = .ok (.iload_n 2, 1) := by decide +kernel
theorem d_Sp_isWithin_12 : decode prog_1_method_22_code 12 = .ok (.ishr, 1) := by decide +kernel
theorem d_Sp_isWithin_13 : decode prog_1_method_22_code 13 = .ok (.if_icmp .gt (7), 3) := by decide +kernel
theorem d_Sp_isWithin_16 : decode prog_1_method_22_code 16 = .ok (.iconst 1, 1) := by decide +kernel
theorem d_Sp_isWithin_17 : decode prog_1_method_22_code 17 = .ok (.goto (4), 3) := by decide +kernel
theorem d_Sp_isWithin_20 : decode prog_1_method_22_code 20 = .ok (.iconst 0, 1) := by decide +kernel
theorem d_Sp_isWithin_21 : decode prog_1_method_22_code 21 = .ok (.ireturn, 1) := by decide +kernel
def F_Sp_isWithin (N : Nat → Nat) (x0 : Int32) (x1 : Int32) (x2 : Int32) (x3 : Int32) (σ : rs_Mem) (Q : Int32 → rs_Mem → Prop) : Prop :=
  ((x0 < x2 → (Q (0 : Int32) σ)) ∧ (¬ (x0 < x2) → ((((255 : Int32) >>> (x2 &&& 31)) < (x1 ^^^ x3) → (Q (0 : Int32) σ)) ∧ (¬ (((255 : Int32) >>> (x2 &&& 31)) < (x1 ^^^ x3)) → (Q (1 : Int32) σ)))))
abbrev y_Sp_isWithin : MethodName := ({ cls := "RouteSpeaker", name := "isWithin", desc := "(IIII)Z" } : Jvm.MethodName)
theorem rc_Sp_isWithin : rs_Cal y_Sp_isWithin prog_1_method_22_code 4 (some .boolean) 4 := ⟨tw_410, tw_1, by decide, by decide, by decide +kernel⟩
set_option maxRecDepth 20000 in
theorem J_Sp_isWithin (l : Launch) {G : rs_G} {Bm : Nat} {S : rs_Shp} {x0 : Int32} {x1 : Int32} {x2 : Int32} {x3 : Int32} {σ : rs_Mem} {Q : Int32 → rs_Mem → Prop} (hF : F_Sp_isWithin S.2.2 x0 x1 x2 x3 σ Q) :
    Met l y_Sp_isWithin (rs_ws y_Sp_isWithin prog_1_method_22_code 4 (some .boolean)) { frames := 0, cells := 0, slots := 0, locals := 0 } (rs_P G Bm S σ [.int x0, .int x1, .int x2, .int x3]) (rs_Qi G Bm S Q) 0 0 (rs_A Bm) := by
  refine rs_met (own := "RouteSpeaker") (by decide) rfl (Nat.le_of_ble_eq_true rfl) (fun p e s m below meth c ls C hl hH hT hS => ?_)
  replace hl : lv_has ls 4 [(0, .int x0), (1, .int x1), (2, .int x2), (3, .int x3)] := hl
  have hx := C.1
  have hb := C.2.1
  unfold F_Sp_isWithin at hF
  refine lv_iload_n hx hb d_Sp_isWithin_0 rfl (lv_at hl 0 rfl) ?_
  refine lv_iload_n hx hb d_Sp_isWithin_1 rfl (lv_at hl 2 rfl) ?_
  refine lv_icmp_lt hx hb d_Sp_isWithin_2 (tgt := 20) rfl (fun hc => ?_) (fun hc => ?_)
  · replace hF := hF.1 hc
    refine lv_iconst hx hb d_Sp_isWithin_20 ki_0 ?_
    exact rs_zret C hH hT hS (by decide) hF d_Sp_isWithin_21
  · replace hF := hF.2 hc
    refine lv_iload_n hx hb d_Sp_isWithin_5 rfl (lv_at hl 1 rfl) ?_
    refine lv_iload_n hx hb d_Sp_isWithin_6 rfl (lv_at hl 3 rfl) ?_
    refine lv_ixor hx hb d_Sp_isWithin_7 ?_
    refine lv_sipush hx hb d_Sp_isWithin_8 ks_255 ?_
    refine lv_iload_n hx hb d_Sp_isWithin_11 rfl (lv_at hl 2 rfl) ?_
    refine lv_ishr hx hb d_Sp_isWithin_12 ?_
    refine lv_icmp_gt hx hb d_Sp_isWithin_13 (tgt := 20) rfl (fun hc => ?_) (fun hc => ?_)
    · replace hF := hF.1 hc
      refine lv_iconst hx hb d_Sp_isWithin_20 ki_0 ?_
      exact rs_zret C hH hT hS (by decide) hF d_Sp_isWithin_21
    · replace hF := hF.2 hc
      refine lv_iconst hx hb d_Sp_isWithin_16 ki_1 ?_
      refine lv_goto hx hb d_Sp_isWithin_17 (tgt := 21) rfl ?_
      exact rs_zret C hH hT hS (by decide) hF d_Sp_isWithin_21
/-! RouteSpeaker$Rules.actionFor(II)I -/
theorem d_Ru_actionFor_0 : decode prog_9_method_4_code 0 = .ok (.iconst 0, 1) := by decide +kernel
theorem d_Ru_actionFor_1 : decode prog_9_method_4_code 1 = .ok (.istore_n 3, 1) := by decide +kernel
theorem d_Ru_actionFor_2 : decode prog_9_method_4_code 2 = .ok (.iload_n 3, 1) := by decide +kernel
theorem d_Ru_actionFor_3 : decode prog_9_method_4_code 3 = .ok (.aload_n 0, 1) := by decide +kernel
theorem d_Ru_actionFor_4 : decode prog_9_method_4_code 4 = .ok (.getfield 21, 3) := by decide +kernel
theorem d_Ru_actionFor_7 : decode prog_9_method_4_code 7 = .ok (.if_icmp .ge (36), 3) := by decide +kernel
theorem d_Ru_actionFor_10 : decode prog_9_method_4_code 10 = .ok (.iload_n 1, 1) := by decide +kernel
theorem d_Ru_actionFor_11 : decode prog_9_method_4_code 11 = .ok (.iload_n 2, 1) := by decide +kernel
theorem d_Ru_actionFor_12 : decode prog_9_method_4_code 12 = .ok (.aload_n 0, 1) := by decide +kernel
theorem d_Ru_actionFor_13 : decode prog_9_method_4_code 13 = .ok (.getfield 9, 3) := by decide +kernel
theorem d_Ru_actionFor_16 : decode prog_9_method_4_code 16 = .ok (.iload_n 3, 1) := by decide +kernel
theorem d_Ru_actionFor_17 : decode prog_9_method_4_code 17 = .ok (.iaload, 1) := by decide +kernel
theorem d_Ru_actionFor_18 : decode prog_9_method_4_code 18 = .ok (.aload_n 0, 1) := by decide +kernel
theorem d_Ru_actionFor_19 : decode prog_9_method_4_code 19 = .ok (.getfield 15, 3) := by decide +kernel
theorem d_Ru_actionFor_22 : decode prog_9_method_4_code 22 = .ok (.iload_n 3, 1) := by decide +kernel
theorem d_Ru_actionFor_23 : decode prog_9_method_4_code 23 = .ok (.iaload, 1) := by decide +kernel
theorem d_Ru_actionFor_24 : decode prog_9_method_4_code 24 = .ok (.invokestatic 25, 3) := by decide +kernel
theorem d_Ru_actionFor_27 : decode prog_9_method_4_code 27 = .ok (.ifCond .eq (10), 3) := by decide +kernel
theorem d_Ru_actionFor_30 : decode prog_9_method_4_code 30 = .ok (.aload_n 0, 1) := by decide +kernel
theorem d_Ru_actionFor_31 : decode prog_9_method_4_code 31 = .ok (.getfield 18, 3) := by decide +kernel
theorem d_Ru_actionFor_34 : decode prog_9_method_4_code 34 = .ok (.iload_n 3, 1) := by decide +kernel
theorem d_Ru_actionFor_35 : decode prog_9_method_4_code 35 = .ok (.iaload, 1) := by decide +kernel
theorem d_Ru_actionFor_36 : decode prog_9_method_4_code 36 = .ok (.ireturn, 1) := by decide +kernel
theorem d_Ru_actionFor_37 : decode prog_9_method_4_code 37 = .ok (.iinc 3 (1), 3) := by decide +kernel
theorem d_Ru_actionFor_40 : decode prog_9_method_4_code 40 = .ok (.goto (-38), 3) := by decide +kernel
theorem d_Ru_actionFor_43 : decode prog_9_method_4_code 43 = .ok (.iconst (-1), 1) := by decide +kernel
theorem d_Ru_actionFor_44 : decode prog_9_method_4_code 44 = .ok (.ireturn, 1) := by decide +kernel
def G_Ru_actionFor_2 (N : Nat → Nat) (Q : Int32 → rs_Mem → Prop) (K2 : Nat → Int32 → Int32 → Int32 → rs_Mem → Prop) (v0 : Nat) (x1 : Int32) (x2 : Int32) (x3 : Int32) (σ : rs_Mem) : Prop :=
  (((rs_I σ v0 3) ≤ x3 → (Q (-1 : Int32) σ)) ∧ (¬ ((rs_I σ v0 3) ≤ x3) → (vp_in x3 (N (rs_R σ v0 0)) ∧ (vp_in x3 (N (rs_R σ v0 1)) ∧ (F_Sp_isWithin N x1 x2 (rs_I σ (rs_R σ v0 0) x3.toNatClampNeg) (rs_I σ (rs_R σ v0 1) x3.toNatClampNeg) σ (fun x56 σ55 => ((x56 = 0 → (∀ x57 : Int32, x57 = x3 + (1 : Int32) → (K2 v0 x1 x2 x57 σ55))) ∧ (¬ (x56 = 0) → (vp_in x3 (N (rs_R σ55 v0 2)) ∧ (Q (rs_I σ55 (rs_R σ55 v0 2) x3.toNatClampNeg) σ55))))))))))
noncomputable def L_Ru_actionFor_2 (N : Nat → Nat) (Q : Int32 → rs_Mem → Prop) (n : Nat) : Nat → Int32 → Int32 → Int32 → rs_Mem → Prop := Nat.rec (motive := fun _ => Nat → Int32 → Int32 → Int32 → rs_Mem → Prop) (fun _ _ _ _ _ => False) (fun _ K => G_Ru_actionFor_2 N Q K) n
def F_Ru_actionFor (N : Nat → Nat) (v0 : Nat) (x1 : Int32) (x2 : Int32) (σ : rs_Mem) (Q : Int32 → rs_Mem → Prop) : Prop :=
  (∃ n : Nat, L_Ru_actionFor_2 N Q n v0 x1 x2 (0 : Int32) σ)
set_option maxRecDepth 20000 in
theorem JL_Ru_actionFor_2 {p : Program} {l : Launch} {e : Env} {s : State} {m : MethodId} {args : Array Value} {below : List Frame} {meth : Method} {c : Code} {G : rs_G} {Bm : Nat} {S : rs_Shp} {Q : Int32 → rs_Mem → Prop} (C : rs_C "RouteSpeaker$Rules" prog_9_method_4_code 4 (some .int) G p s m meth c args) : ∀ n : Nat, ∀ (v0 : Nat) (x1 : Int32) (x2 : Int32) (x3 : Int32) (σ : rs_Mem) (H : Heap) (locs : List Loc) (ls : Array Slot), rs_Ok S 9 v0 → rs_H G Bm S σ H → rs_T S σ → va_S (rs_A Bm) s.heap H locs → lv_has ls 4 [(0, .ref (Bm + v0)), (1, .int x1), (2, .int x2), (3, .int x3)] → (L_Ru_actionFor_2 S.2.2 Q n) v0 x1 x2 x3 σ → W p l e { frames := 1, cells := 0, slots := 0, locals := 23 } s m args below meth c H locs 0 0 (MQ below (rs_Qi G Bm S Q) args s 0 0 (rs_A Bm)) (F0 m 2 ls []) := by
  have hx := C.1
  have hb := C.2.1
  intro n
  induction n with
  | zero => intros; rename_i hF; exact hF.elim
  | succ n hK2 =>
    intro v0 x1 x2 x3 σ H locs ls h_v0 hH hT hS hl hF
    replace hF : G_Ru_actionFor_2 S.2.2 Q (L_Ru_actionFor_2 S.2.2 Q n) v0 x1 x2 x3 σ := hF
    unfold G_Ru_actionFor_2 at hF
    refine lv_iload_n hx hb d_Ru_actionFor_2 rfl (lv_at hl 3 rfl) ?_
    refine lv_aload_n hx hb d_Ru_actionFor_3 rfl (lv_at hl 0 rfl) ?_
    refine rs_getI C hH h_v0 fk_9_3 tw_201 d_Ru_actionFor_4 ?_
    refine lv_icmp_ge hx hb d_Ru_actionFor_7 (tgt := 43) rfl (fun hc => ?_) (fun hc => ?_)
    · replace hF := hF.1 hc
      refine lv_iconst hx hb d_Ru_actionFor_43 ki_m1 ?_
      exact rs_iret C hH hT hS hF d_Ru_actionFor_44
    · replace hF := hF.2 hc
      refine lv_iload_n hx hb d_Ru_actionFor_10 rfl (lv_at hl 1 rfl) ?_
      refine lv_iload_n hx hb d_Ru_actionFor_11 rfl (lv_at hl 2 rfl) ?_
      refine lv_aload_n hx hb d_Ru_actionFor_12 rfl (lv_at hl 0 rfl) ?_
      refine rs_getR C hH hT h_v0 fk_9_0 tw_198 d_Ru_actionFor_13 (fun h51 => ?_)
      refine lv_iload_n hx hb d_Ru_actionFor_16 rfl (lv_at hl 3 rfl) ?_
      obtain ⟨g52, hF⟩ := hF
      refine rs_iald C hH h51 g52 d_Ru_actionFor_17 ?_
      refine lv_aload_n hx hb d_Ru_actionFor_18 rfl (lv_at hl 0 rfl) ?_
      refine rs_getR C hH hT h_v0 fk_9_1 tw_199 d_Ru_actionFor_19 (fun h53 => ?_)
      refine lv_iload_n hx hb d_Ru_actionFor_22 rfl (lv_at hl 3 rfl) ?_
      obtain ⟨g54, hF⟩ := hF
      refine rs_iald C hH h53 g54 d_Ru_actionFor_23 ?_
      refine rs_ci (rs_runSN C hH hT hl (J_Sp_isWithin l hF) rc_Sp_isWithin (host := "RouteSpeaker") nw_0 tw_409 rfl ⟨⟨rfl, rfl⟩, by decide, by decide, by decide⟩ (by decide) rfl d_Ru_actionFor_24) hS (fun x56 σ55 H locs hH hT hS hF => ?_)
      refine lv_if_eq hx hb d_Ru_actionFor_27 (tgt := 37) rfl (fun hc => ?_) (fun hc => ?_)
      · replace hF := hF.1 hc
        obtain ⟨x57, ex57⟩ : ∃ z : Int32, z = x3 + (1 : Int32) := ⟨_, rfl⟩
        replace hF := hF x57 ex57
        refine lv_iinc hx hb d_Ru_actionFor_37 hl (k := 3) rfl (v := x57) (by rw [ki_1, ex57]) (by decide) (lv' := [(3, .int x57), (0, .ref (Bm + v0)), (1, .int x1), (2, .int x2)]) rfl (fun ls hl => ?_)
        refine lv_goto hx hb d_Ru_actionFor_40 (tgt := 2) rfl ?_
        exact hK2 v0 x1 x2 x57 σ55 _ _ _ h_v0 hH hT hS (lv_sub hl [1, 2, 3, 0] rfl) hF
      · replace hF := hF.2 hc
        refine lv_aload_n hx hb d_Ru_actionFor_30 rfl (lv_at hl 0 rfl) ?_
        refine rs_getR C hH hT h_v0 fk_9_2 tw_200 d_Ru_actionFor_31 (fun h57 => ?_)
        refine lv_iload_n hx hb d_Ru_actionFor_34 rfl (lv_at hl 3 rfl) ?_
        obtain ⟨g58, hF⟩ := hF
        refine rs_iald C hH h57 g58 d_Ru_actionFor_35 ?_
        exact rs_iret C hH hT hS hF d_Ru_actionFor_36
abbrev y_Ru_actionFor : MethodName := ({ cls := "RouteSpeaker$Rules", name := "actionFor", desc := "(II)I" } : Jvm.MethodName)
theorem rc_Ru_actionFor : rs_Cal y_Ru_actionFor prog_9_method_4_code 4 (some .int) 2 := ⟨tw_407, tw_8, by decide, by decide, by decide +kernel⟩
set_option maxRecDepth 20000 in
theorem J_Ru_actionFor (l : Launch) {G : rs_G} {Bm : Nat} {S : rs_Shp} {v0 : Nat} {x1 : Int32} {x2 : Int32} {σ : rs_Mem} {Q : Int32 → rs_Mem → Prop} (h_v0 : rs_Ok S 9 v0) (hF : F_Ru_actionFor S.2.2 v0 x1 x2 σ Q) :
    Met l y_Ru_actionFor (rs_ws y_Ru_actionFor prog_9_method_4_code 4 (some .int)) { frames := 1, cells := 0, slots := 0, locals := 23 } (rs_P G Bm S σ [.ref (Bm + v0), .int x1, .int x2]) (rs_Qi G Bm S Q) 0 0 (rs_A Bm) := by
  refine rs_met (own := "RouteSpeaker$Rules") (by decide) rfl (Nat.le_of_ble_eq_true rfl) (fun p e s m below meth c ls C hl hH hT hS => ?_)
  replace hl : lv_has ls 4 [(0, .ref (Bm + v0)), (1, .int x1), (2, .int x2)] := hl
  have hx := C.1
  have hb := C.2.1
  unfold F_Ru_actionFor at hF
  refine lv_iconst hx hb d_Ru_actionFor_0 ki_0 ?_
  refine lv_istore_n hx hb d_Ru_actionFor_1 rfl hl (by decide) (lv' := [(3, .int (0 : Int32)), (0, .ref (Bm + v0)), (1, .int x1), (2, .int x2)]) rfl (fun ls hl => ?_)
  obtain ⟨n, hF⟩ := hF
  exact JL_Ru_actionFor_2 C n v0 x1 x2 (0 : Int32) σ _ _ _ h_v0 hH hT hS (lv_sub hl [1, 2, 3, 0] rfl) hF
/-! RouteSpeaker$Rules.clear()V -/
theorem d_Ru_clear_0 : decode prog_9_method_3_code 0 = .ok (.aload_n 0, 1) := by decide +kernel
theorem d_Ru_clear_1 : decode prog_9_method_3_code 1 = .ok (.iconst 0, 1) := by decide +kernel
theorem d_Ru_clear_2 : decode prog_9_method_3_code 2 = .ok (.putfield 21, 3) := by decide +kernel
theorem d_Ru_clear_5 : decode prog_9_method_3_code 5 = .ok (.return_, 1) := by decide +kernel
def F_Ru_clear (N : Nat → Nat) (v0 : Nat) (σ : rs_Mem) (Q : rs_Mem → Prop) : Prop :=
  (∀ σ51 : rs_Mem, σ51 = rs_sI σ v0 3 (0 : Int32) → (Q σ51))
abbrev y_Ru_clear : MethodName := ({ cls := "RouteSpeaker$Rules", name := "clear", desc := "()V" } : Jvm.MethodName)
theorem rc_Ru_clear : rs_Cal y_Ru_clear prog_9_method_3_code 1 none 0 := ⟨tw_642, tw_8, by decide, by decide, by decide +kernel⟩
set_option maxRecDepth 20000 in
theorem J_Ru_clear (l : Launch) {G : rs_G} {Bm : Nat} {S : rs_Shp} {v0 : Nat} {σ : rs_Mem} {Q : rs_Mem → Prop} (h_v0 : rs_Ok S 9 v0) (hF : F_Ru_clear S.2.2 v0 σ Q) :
    Met l y_Ru_clear (rs_ws y_Ru_clear prog_9_method_3_code 1 none) { frames := 0, cells := 0, slots := 0, locals := 0 } (rs_P G Bm S σ [.ref (Bm + v0)]) (rs_Qv G Bm S Q) 0 0 (rs_A Bm) := by
  refine rs_met (own := "RouteSpeaker$Rules") (by decide) rfl (Nat.le_of_ble_eq_true rfl) (fun p e s m below meth c ls C hl hH hT hS => ?_)
  replace hl : lv_has ls 1 [(0, .ref (Bm + v0))] := hl
  have hx := C.1
  have hb := C.2.1
  unfold F_Ru_clear at hF
  refine lv_aload_n hx hb d_Ru_clear_0 rfl (lv_at hl 0 rfl) ?_
  refine lv_iconst hx hb d_Ru_clear_1 ki_0 ?_
  refine rs_putI C hH hT hS h_v0 fk_9_3 rfl tw_201 d_Ru_clear_2 (fun σ51 H locs eσ51 hH hT hS => ?_)
  replace hF := hF σ51 eσ51
  exact rs_vret C hH hT hS hF d_Ru_clear_5
