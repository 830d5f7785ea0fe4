/-! RouteSpeakerModel.find(II)I -/
theorem d_Mo_find_0 : decode prog_12_method_9_code 0 = .ok (.iconst 0, 1) := by decide +kernel
theorem d_Mo_find_1 : decode prog_12_method_9_code 1 = .ok (.istore_n 3, 1) := by decide +kernel
theorem d_Mo_find_2 : decode prog_12_method_9_code 2 = .ok (.iload_n 3, 1) := by decide +kernel
theorem d_Mo_find_3 : decode prog_12_method_9_code 3 = .ok (.aload_n 0, 1) := by decide +kernel
theorem d_Mo_find_4 : decode prog_12_method_9_code 4 = .ok (.getfield 134, 3) := by decide +kernel
theorem d_Mo_find_7 : decode prog_12_method_9_code 7 = .ok (.if_icmp .ge (31), 3) := by decide +kernel
theorem d_Mo_find_10 : decode prog_12_method_9_code 10 = .ok (.aload_n 0, 1) := by decide +kernel
theorem d_Mo_find_11 : decode prog_12_method_9_code 11 = .ok (.getfield 67, 3) := by decide +kernel
theorem d_Mo_find_14 : decode prog_12_method_9_code 14 = .ok (.iload_n 3, 1) := by decide +kernel
theorem d_Mo_find_15 : decode prog_12_method_9_code 15 = .ok (.iaload, 1) := by decide +kernel
theorem d_Mo_find_16 : decode prog_12_method_9_code 16 = .ok (.iload_n 1, 1) := by decide +kernel
theorem d_Mo_find_17 : decode prog_12_method_9_code 17 = .ok (.if_icmp .ne (15), 3) := by decide +kernel
theorem d_Mo_find_20 : decode prog_12_method_9_code 20 = .ok (.aload_n 0, 1) := by decide +kernel
theorem d_Mo_find_21 : decode prog_12_method_9_code 21 = .ok (.getfield 70, 3) := by decide +kernel
theorem d_Mo_find_24 : decode prog_12_method_9_code 24 = .ok (.iload_n 3, 1) := by decide +kernel
theorem d_Mo_find_25 : decode prog_12_method_9_code 25 = .ok (.iaload, 1) := by decide +kernel
theorem d_Mo_find_26 : decode prog_12_method_9_code 26 = .ok (.iload_n 2, 1) := by decide +kernel
theorem d_Mo_find_27 : decode prog_12_method_9_code 27 = .ok (.if_icmp .ne (5), 3) := by decide +kernel
theorem d_Mo_find_30 : decode prog_12_method_9_code 30 = .ok (.iload_n 3, 1) := by decide +kernel
theorem d_Mo_find_31 : decode prog_12_method_9_code 31 = .ok (.ireturn, 1) := by decide +kernel
theorem d_Mo_find_32 : decode prog_12_method_9_code 32 = .ok (.iinc 3 (1), 3) := by decide +kernel
theorem d_Mo_find_35 : decode prog_12_method_9_code 35 = .ok (.goto (-33), 3) := by decide +kernel
theorem d_Mo_find_38 : decode prog_12_method_9_code 38 = .ok (.iconst (-1), 1) := by decide +kernel
theorem d_Mo_find_39 : decode prog_12_method_9_code 39 = .ok (.ireturn, 1) := by decide +kernel
def G_Mo_find_2 (N : Nat → Nat) (Q : Int32 → rs_Mem → Prop) (K2 : Nat → Int32 → Int32 → Int32 → rs_Mem → Prop) (v0 : Nat) (x1 : Int32) (x2 : Int32) (x3 : Int32) (σ : rs_Mem) : Prop :=
  (((rs_I σ v0 21) ≤ x3 → (Q (-1 : Int32) σ)) ∧ (¬ ((rs_I σ v0 21) ≤ x3) → (vp_in x3 (N (rs_R σ v0 22)) ∧ ((¬ ((rs_I σ (rs_R σ v0 22) x3.toNatClampNeg) = x1) → (∀ x53 : Int32, x53 = x3 + (1 : Int32) → (K2 v0 x1 x2 x53 σ))) ∧ ((rs_I σ (rs_R σ v0 22) x3.toNatClampNeg) = x1 → (vp_in x3 (N (rs_R σ v0 23)) ∧ ((¬ ((rs_I σ (rs_R σ v0 23) x3.toNatClampNeg) = x2) → (∀ x55 : Int32, x55 = x3 + (1 : Int32) → (K2 v0 x1 x2 x55 σ))) ∧ ((rs_I σ (rs_R σ v0 23) x3.toNatClampNeg) = x2 → (Q x3 σ)))))))))
noncomputable def L_Mo_find_2 (N : Nat → Nat) (Q : Int32 → rs_Mem → Prop) (n : Nat) : Nat → Int32 → Int32 → Int32 → rs_Mem → Prop := Nat.rec (motive := fun _ => Nat → Int32 → Int32 → Int32 → rs_Mem → Prop) (fun _ _ _ _ _ => False) (fun _ K => G_Mo_find_2 N Q K) n
def F_Mo_find (N : Nat → Nat) (v0 : Nat) (x1 : Int32) (x2 : Int32) (σ : rs_Mem) (Q : Int32 → rs_Mem → Prop) : Prop :=
  (∃ n : Nat, L_Mo_find_2 N Q n v0 x1 x2 (0 : Int32) σ)
set_option maxRecDepth 20000 in
theorem JL_Mo_find_2 {p : Program} {l : Launch} {e : Env} {s : State} {m : MethodId} {args : Array Value} {below : List Frame} {meth : Method} {c : Code} {G : rs_G} {Bm : Nat} {S : rs_Shp} {Q : Int32 → rs_Mem → Prop} (C : rs_C "RouteSpeakerModel" prog_12_method_9_code 4 (some .int) G p s m meth c args) : ∀ n : Nat, ∀ (v0 : Nat) (x1 : Int32) (x2 : Int32) (x3 : Int32) (σ : rs_Mem) (H : Heap) (locs : List Loc) (ls : Array Slot), rs_Ok S 11 v0 → rs_H G Bm S σ H → rs_T S σ → va_S (rs_A Bm) s.heap H locs → lv_has ls 4 [(0, .ref (Bm + v0)), (1, .int x1), (2, .int x2), (3, .int x3)] → (L_Mo_find_2 S.2.2 Q n) v0 x1 x2 x3 σ → W p l e { frames := 0, cells := 0, slots := 0, locals := 0 } s m args below meth c H locs 0 0 (MQ below (rs_Qi G Bm S Q) args s 0 0 (rs_A Bm)) (F0 m 2 ls []) := by
  have hx := C.1
  have hb := C.2.1
  intro n
  induction n with
  | zero => intros; rename_i hF; exact hF.elim
  | succ n hK2 =>
    intro v0 x1 x2 x3 σ H locs ls h_v0 hH hT hS hl hF
    replace hF : G_Mo_find_2 S.2.2 Q (L_Mo_find_2 S.2.2 Q n) v0 x1 x2 x3 σ := hF
    unfold G_Mo_find_2 at hF
    refine lv_iload_n hx hb d_Mo_find_2 rfl (lv_at hl 3 rfl) ?_
    refine lv_aload_n hx hb d_Mo_find_3 rfl (lv_at hl 0 rfl) ?_
    refine rs_getI C hH h_v0 fk_11_21 tw_920 d_Mo_find_4 ?_
    refine lv_icmp_ge hx hb d_Mo_find_7 (tgt := 38) rfl (fun hc => ?_) (fun hc => ?_)
    · replace hF := hF.1 hc
      refine lv_iconst hx hb d_Mo_find_38 ki_m1 ?_
      exact rs_iret C hH hT hS hF d_Mo_find_39
    · replace hF := hF.2 hc
      refine lv_aload_n hx hb d_Mo_find_10 rfl (lv_at hl 0 rfl) ?_
      refine rs_getR C hH hT h_v0 fk_11_22 tw_921 d_Mo_find_11 (fun h51 => ?_)
      refine lv_iload_n hx hb d_Mo_find_14 rfl (lv_at hl 3 rfl) ?_
      obtain ⟨g52, hF⟩ := hF
      refine rs_iald C hH h51 g52 d_Mo_find_15 ?_
      refine lv_iload_n hx hb d_Mo_find_16 rfl (lv_at hl 1 rfl) ?_
      refine lv_icmp_ne hx hb d_Mo_find_17 (tgt := 32) rfl (fun hc => ?_) (fun hc => ?_)
      · replace hF := hF.1 hc
        obtain ⟨x53, ex53⟩ : ∃ z : Int32, z = x3 + (1 : Int32) := ⟨_, rfl⟩
        replace hF := hF x53 ex53
        refine lv_iinc hx hb d_Mo_find_32 hl (k := 3) rfl (v := x53) (by rw [ki_1, ex53]) (by decide) (lv' := [(3, .int x53), (0, .ref (Bm + v0)), (1, .int x1), (2, .int x2)]) rfl (fun ls hl => ?_)
        refine lv_goto hx hb d_Mo_find_35 (tgt := 2) rfl ?_
        exact hK2 v0 x1 x2 x53 σ _ _ _ h_v0 hH hT hS (lv_sub hl [1, 2, 3, 0] rfl) hF
      · replace hF := hF.2 hc
        refine lv_aload_n hx hb d_Mo_find_20 rfl (lv_at hl 0 rfl) ?_
        refine rs_getR C hH hT h_v0 fk_11_23 tw_922 d_Mo_find_21 (fun h53 => ?_)
        refine lv_iload_n hx hb d_Mo_find_24 rfl (lv_at hl 3 rfl) ?_
        obtain ⟨g54, hF⟩ := hF
        refine rs_iald C hH h53 g54 d_Mo_find_25 ?_
        refine lv_iload_n hx hb d_Mo_find_26 rfl (lv_at hl 2 rfl) ?_
        refine lv_icmp_ne hx hb d_Mo_find_27 (tgt := 32) rfl (fun hc => ?_) (fun hc => ?_)
        · replace hF := hF.1 hc
          obtain ⟨x55, ex55⟩ : ∃ z : Int32, z = x3 + (1 : Int32) := ⟨_, rfl⟩
          replace hF := hF x55 ex55
          refine lv_iinc hx hb d_Mo_find_32 hl (k := 3) rfl (v := x55) (by rw [ki_1, ex55]) (by decide) (lv' := [(3, .int x55), (0, .ref (Bm + v0)), (1, .int x1), (2, .int x2)]) rfl (fun ls hl => ?_)
          refine lv_goto hx hb d_Mo_find_35 (tgt := 2) rfl ?_
          exact hK2 v0 x1 x2 x55 σ _ _ _ h_v0 hH hT hS (lv_sub hl [1, 2, 3, 0] rfl) hF
        · replace hF := hF.2 hc
          refine lv_iload_n hx hb d_Mo_find_30 rfl (lv_at hl 3 rfl) ?_
          exact rs_iret C hH hT hS hF d_Mo_find_31
abbrev y_Mo_find : MethodName := ({ cls := "RouteSpeakerModel", name := "find", desc := "(II)I" } : Jvm.MethodName)
theorem rc_Mo_find : rs_Cal y_Mo_find prog_12_method_9_code 4 (some .int) 2 := ⟨tw_1154, tw_11, by decide, by decide, by decide +kernel⟩
set_option maxRecDepth 20000 in
theorem J_Mo_find (l : Launch) {G : rs_G} {Bm : Nat} {S : rs_Shp} {v0 : Nat} {x1 : Int32} {x2 : Int32} {σ : rs_Mem} {Q : Int32 → rs_Mem → Prop} (h_v0 : rs_Ok S 11 v0) (hF : F_Mo_find S.2.2 v0 x1 x2 σ Q) :
    Met l y_Mo_find (rs_ws y_Mo_find prog_12_method_9_code 4 (some .int)) { frames := 0, cells := 0, slots := 0, locals := 0 } (rs_P G Bm S σ [.ref (Bm + v0), .int x1, .int x2]) (rs_Qi G Bm S Q) 0 0 (rs_A Bm) := by
  refine rs_met (own := "RouteSpeakerModel") (by decide) rfl (Nat.le_of_ble_eq_true rfl) (fun p e s m below meth c ls C hl hH hT hS => ?_)
  replace hl : lv_has ls 4 [(0, .ref (Bm + v0)), (1, .int x1), (2, .int x2)] := hl
  have hx := C.1
  have hb := C.2.1
  unfold F_Mo_find at hF
  refine lv_iconst hx hb d_Mo_find_0 ki_0 ?_
  refine lv_istore_n hx hb d_Mo_find_1 rfl hl (by decide) (lv' := [(3, .int (0 : Int32)), (0, .ref (Bm + v0)), (1, .int x1), (2, .int x2)]) rfl (fun ls hl => ?_)
  obtain ⟨n, hF⟩ := hF
  exact JL_Mo_find_2 C n v0 x1 x2 (0 : Int32) σ _ _ _ h_v0 hH hT hS (lv_sub hl [1, 2, 3, 0] rfl) hF
/-! RouteSpeakerModel.learned(II)I -/
theorem d_Mo_learned_0 : decode prog_12_method_10_code 0 = .ok (.aload_n 0, 1) := by decide +kernel
theorem d_Mo_learned_1 : decode prog_12_method_10_code 1 = .ok (.iload_n 1, 1) := by decide +kernel
theorem d_Mo_learned_2 : decode prog_12_method_10_code 2 = .ok (.iload_n 2, 1) := by decide +kernel
theorem d_Mo_learned_3 : decode prog_12_method_10_code 3 = .ok (.invokevirtual 137, 3) := by decide +kernel
theorem d_Mo_learned_6 : decode prog_12_method_10_code 6 = .ok (.istore_n 3, 1) := by decide +kernel
theorem d_Mo_learned_7 : decode prog_12_method_10_code 7 = .ok (.iload_n 3, 1) := by decide +kernel
theorem d_Mo_learned_8 : decode prog_12_method_10_code 8 = .ok (.ifCond .lt (5), 3) := by decide +kernel
theorem d_Mo_learned_11 : decode prog_12_method_10_code 11 = .ok (.iload_n 3, 1) := by decide +kernel
theorem d_Mo_learned_12 : decode prog_12_method_10_code 12 = .ok (.ireturn, 1) := by decide +kernel
theorem d_Mo_learned_13 : decode prog_12_method_10_code 13 = .ok (.aload_n 0, 1) := by decide +kernel
theorem d_Mo_learned_14 : decode prog_12_method_10_code 14 = .ok (.getfield 67, 3) := by decide +kernel
theorem d_Mo_learned_17 : decode prog_12_method_10_code 17 = .ok (.aload_n 0, 1) := by decide +kernel
theorem d_Mo_learned_18 : decode prog_12_method_10_code 18 = .ok (.getfield 134, 3) := by decide +kernel
theorem d_Mo_learned_21 : decode prog_12_method_10_code 21 = .ok (.iload_n 1, 1) := by decide +kernel
theorem d_Mo_learned_22 : decode prog_12_method_10_code 22 = .ok (.iastore, 1) := by decide +kernel
theorem d_Mo_learned_23 : decode prog_12_method_10_code 23 = .ok (.aload_n 0, 1) := by decide +kernel
theorem d_Mo_learned_24 : decode prog_12_method_10_code 24 = .ok (.getfield 70, 3) := by decide +kernel
theorem d_Mo_learned_27 : decode prog_12_method_10_code 27 = .ok (.aload_n 0, 1) := by decide +kernel
theorem d_Mo_learned_28 : decode prog_12_method_10_code 28 = .ok (.getfield 134, 3) := by decide +kernel
theorem d_Mo_learned_31 : decode prog_12_method_10_code 31 = .ok (.iload_n 2, 1) := by decide +kernel
theorem d_Mo_learned_32 : decode prog_12_method_10_code 32 = .ok (.iastore, 1) := by decide +kernel
theorem d_Mo_learned_33 : decode prog_12_method_10_code 33 = .ok (.aload_n 0, 1) := by decide +kernel
theorem d_Mo_learned_34 : decode prog_12_method_10_code 34 = .ok (.dup, 1) := by decide +kernel
theorem d_Mo_learned_35 : decode prog_12_method_10_code 35 = .ok (.getfield 134, 3) := by decide +kernel
theorem d_Mo_learned_38 : decode prog_12_method_10_code 38 = .ok (.iconst 1, 1) := by decide +kernel
theorem d_Mo_learned_39 : decode prog_12_method_10_code 39 = .ok (.iadd, 1) := by decide +kernel
theorem d_Mo_learned_40 : decode prog_12_method_10_code 40 = .ok (.putfield 134, 3) := by decide +kernel
theorem d_Mo_learned_43 : decode prog_12_method_10_code 43 = .ok (.aload_n 0, 1) := by decide +kernel
theorem d_Mo_learned_44 : decode prog_12_method_10_code 44 = .ok (.getfield 134, 3) := by decide +kernel
theorem d_Mo_learned_47 : decode prog_12_method_10_code 47 = .ok (.iconst 1, 1) := by decide +kernel
theorem d_Mo_learned_48 : decode prog_12_method_10_code 48 = .ok (.isub, 1) := by decide +kernel
theorem d_Mo_learned_49 : decode prog_12_method_10_code 49 = .ok (.ireturn, 1) := by decide +kernel
def F_Mo_learned (N : Nat → Nat) (v0 : Nat) (x1 : Int32) (x2 : Int32) (σ : rs_Mem) (Q : Int32 → rs_Mem → Prop) : Prop :=
  (F_Mo_find N v0 x1 x2 σ (fun x52 σ51 => ((x52 < 0 → (vp_in (rs_I σ51 v0 21) (N (rs_R σ51 v0 22)) ∧ ∀ σ55 : rs_Mem, σ55 = rs_sI σ51 (rs_R σ51 v0 22) (rs_I σ51 v0 21).toNatClampNeg x1 → (vp_in (rs_I σ55 v0 21) (N (rs_R σ55 v0 23)) ∧ ∀ σ58 : rs_Mem, σ58 = rs_sI σ55 (rs_R σ55 v0 23) (rs_I σ55 v0 21).toNatClampNeg x2 → (∀ σ59 : rs_Mem, σ59 = rs_sI σ58 v0 21 ((rs_I σ58 v0 21) + (1 : Int32)) → (Q ((rs_I σ59 v0 21) - (1 : Int32)) σ59))))) ∧ (¬ (x52 < 0) → (Q x52 σ51)))))
abbrev y_Mo_learned : MethodName := ({ cls := "RouteSpeakerModel", name := "learned", desc := "(II)I" } : Jvm.MethodName)
theorem rc_Mo_learned : rs_Cal y_Mo_learned prog_12_method_10_code 4 (some .int) 2 := ⟨tw_1158, tw_11, by decide, by decide, by decide +kernel⟩
set_option maxRecDepth 20000 in
theorem J_Mo_learned (l : Launch) {G : rs_G} {Bm : Nat} {S : rs_Shp} {v0 : Nat} {x1 : Int32} {x2 : Int32} {σ : rs_Mem} {Q : Int32 → rs_Mem → Prop} (h_v0 : rs_Ok S 11 v0) (hF : F_Mo_learned S.2.2 v0 x1 x2 σ Q) :
    Met l y_Mo_learned (rs_ws y_Mo_learned prog_12_method_10_code 4 (some .int)) { frames := 1, cells := 0, slots := 0, locals := 23 } (rs_P G Bm S σ [.ref (Bm + v0), .int x1, .int x2]) (rs_Qi G Bm S Q) 0 0 (rs_A Bm) := by
  refine rs_met (own := "RouteSpeakerModel") (by decide) rfl (Nat.le_of_ble_eq_true rfl) (fun p e s m below meth c ls C hl hH hT hS => ?_)
  replace hl : lv_has ls 4 [(0, .ref (Bm + v0)), (1, .int x1), (2, .int x2)] := hl
  have hx := C.1
  have hb := C.2.1
  unfold F_Mo_learned at hF
  refine lv_aload_n hx hb d_Mo_learned_0 rfl (lv_at hl 0 rfl) ?_
  refine lv_iload_n hx hb d_Mo_learned_1 rfl (lv_at hl 1 rfl) ?_
  refine lv_iload_n hx hb d_Mo_learned_2 rfl (lv_at hl 2 rfl) ?_
  refine rs_ci (rs_runV C hH hT hl (J_Mo_find l h_v0 hF) rc_Mo_find tw_1151 tw_1153 ts_56 h_v0 ⟨rfl, by decide, by decide⟩ rfl ⟨⟨rfl, rfl⟩, by decide, by decide, by decide⟩ (Nat.le_of_ble_eq_true rfl) rfl d_Mo_learned_3) hS (fun x52 σ51 H locs hH hT hS hF => ?_)
  refine lv_istore_n hx hb d_Mo_learned_6 rfl hl (by decide) (lv' := [(3, .int x52), (0, .ref (Bm + v0)), (1, .int x1), (2, .int x2)]) rfl (fun ls hl => ?_)
  refine lv_iload_n hx hb d_Mo_learned_7 rfl (lv_at hl 0 rfl) ?_
  refine lv_if_lt hx hb d_Mo_learned_8 (tgt := 13) rfl (fun hc => ?_) (fun hc => ?_)
  · replace hF := hF.1 hc
    refine lv_aload_n hx hb d_Mo_learned_13 rfl (lv_at hl 1 rfl) ?_
    refine rs_getR C hH hT h_v0 fk_11_22 tw_921 d_Mo_learned_14 (fun h53 => ?_)
    refine lv_aload_n hx hb d_Mo_learned_17 rfl (lv_at hl 1 rfl) ?_
    refine rs_getI C hH h_v0 fk_11_21 tw_920 d_Mo_learned_18 ?_
    refine lv_iload_n hx hb d_Mo_learned_21 rfl (lv_at hl 2 rfl) ?_
    obtain ⟨g54, hF⟩ := hF
    refine rs_iast C hH hT hS h53 g54 d_Mo_learned_22 (fun σ55 H locs eσ55 hH hT hS => ?_)
    replace hF := hF σ55 eσ55
    refine lv_aload_n hx hb d_Mo_learned_23 rfl (lv_at hl 1 rfl) ?_
    refine rs_getR C hH hT h_v0 fk_11_23 tw_922 d_Mo_learned_24 (fun h56 => ?_)
    refine lv_aload_n hx hb d_Mo_learned_27 rfl (lv_at hl 1 rfl) ?_
    refine rs_getI C hH h_v0 fk_11_21 tw_920 d_Mo_learned_28 ?_
    refine lv_iload_n hx hb d_Mo_learned_31 rfl (lv_at hl 3 rfl) ?_
    obtain ⟨g57, hF⟩ := hF
    refine rs_iast C hH hT hS h56 g57 d_Mo_learned_32 (fun σ58 H locs eσ58 hH hT hS => ?_)
    replace hF := hF σ58 eσ58
    refine lv_aload_n hx hb d_Mo_learned_33 rfl (lv_at hl 1 rfl) ?_
    refine lv_dup hx hb d_Mo_learned_34 rfl ?_
    refine rs_getI C hH h_v0 fk_11_21 tw_920 d_Mo_learned_35 ?_
    refine lv_iconst hx hb d_Mo_learned_38 ki_1 ?_
    refine lv_iadd hx hb d_Mo_learned_39 ?_
    refine rs_putI C hH hT hS h_v0 fk_11_21 rfl tw_920 d_Mo_learned_40 (fun σ59 H locs eσ59 hH hT hS => ?_)
    replace hF := hF σ59 eσ59
    refine lv_aload_n hx hb d_Mo_learned_43 rfl (lv_at hl 1 rfl) ?_
    refine rs_getI C hH h_v0 fk_11_21 tw_920 d_Mo_learned_44 ?_
    refine lv_iconst hx hb d_Mo_learned_47 ki_1 ?_
    refine lv_isub hx hb d_Mo_learned_48 ?_
    exact rs_iret C hH hT hS hF d_Mo_learned_49
  · replace hF := hF.2 hc
    refine lv_iload_n hx hb d_Mo_learned_11 rfl (lv_at hl 0 rfl) ?_
    exact rs_iret C hH hT hS hF d_Mo_learned_12
/-! RouteSpeakerModel.begin(I)V -/
theorem d_Mo_begin_0 : decode prog_12_method_11_code 0 = .ok (.aload_n 0, 1) := by decide +kernel
theorem d_Mo_begin_1 : decode prog_12_method_11_code 1 = .ok (.getfield 64, 3) := by decide +kernel
theorem d_Mo_begin_4 : decode prog_12_method_11_code 4 = .ok (.iconst 0, 1) := by decide +kernel
theorem d_Mo_begin_5 : decode prog_12_method_11_code 5 = .ok (.iconst 0, 1) := by decide +kernel
theorem d_Mo_begin_6 : decode prog_12_method_11_code 6 = .ok (.iastore, 1) := by decide +kernel
theorem d_Mo_begin_7 : decode prog_12_method_11_code 7 = .ok (.aload_n 0, 1) := by decide +kernel
theorem d_Mo_begin_8 : decode prog_12_method_11_code 8 = .ok (.getfield 64, 3) := by decide +kernel
theorem d_Mo_begin_11 : decode prog_12_method_11_code 11 = .ok (.iconst 1, 1) := by decide +kernel
theorem d_Mo_begin_12 : decode prog_12_method_11_code 12 = .ok (.iload_n 1, 1) := by decide +kernel
theorem d_Mo_begin_13 : decode prog_12_method_11_code 13 = .ok (.iastore, 1) := by decide +kernel
theorem d_Mo_begin_14 : decode prog_12_method_11_code 14 = .ok (.aload_n 0, 1) := by decide +kernel
theorem d_Mo_begin_15 : decode prog_12_method_11_code 15 = .ok (.iconst 2, 1) := by decide +kernel
theorem d_Mo_begin_16 : decode prog_12_method_11_code 16 = .ok (.putfield 141, 3) := by decide +kernel
theorem d_Mo_begin_19 : decode prog_12_method_11_code 19 = .ok (.return_, 1) := by decide +kernel
def F_Mo_begin (N : Nat → Nat) (v0 : Nat) (x1 : Int32) (σ : rs_Mem) (Q : rs_Mem → Prop) : Prop :=
  (vp_in (0 : Int32) (N (rs_R σ v0 19)) ∧ ∀ σ53 : rs_Mem, σ53 = rs_sI σ (rs_R σ v0 19) (0 : Int32).toNatClampNeg (0 : Int32) → (vp_in (1 : Int32) (N (rs_R σ53 v0 19)) ∧ ∀ σ56 : rs_Mem, σ56 = rs_sI σ53 (rs_R σ53 v0 19) (1 : Int32).toNatClampNeg x1 → (∀ σ57 : rs_Mem, σ57 = rs_sI σ56 v0 20 (2 : Int32) → (Q σ57))))
abbrev y_Mo_begin : MethodName := ({ cls := "RouteSpeakerModel", name := "begin", desc := "(I)V" } : Jvm.MethodName)
theorem rc_Mo_begin : rs_Cal y_Mo_begin prog_12_method_11_code 2 none 1 := ⟨tw_1119, tw_11, by decide, by decide, by decide +kernel⟩
set_option maxRecDepth 20000 in
theorem J_Mo_begin (l : Launch) {G : rs_G} {Bm : Nat} {S : rs_Shp} {v0 : Nat} {x1 : Int32} {σ : rs_Mem} {Q : rs_Mem → Prop} (h_v0 : rs_Ok S 11 v0) (hF : F_Mo_begin S.2.2 v0 x1 σ Q) :
    Met l y_Mo_begin (rs_ws y_Mo_begin prog_12_method_11_code 2 none) { frames := 0, cells := 0, slots := 0, locals := 0 } (rs_P G Bm S σ [.ref (Bm + v0), .int x1]) (rs_Qv G Bm S Q) 0 0 (rs_A Bm) := by
  refine rs_met (own := "RouteSpeakerModel") (by decide) rfl (Nat.le_of_ble_eq_true rfl) (fun p e s m below meth c ls C hl hH hT hS => ?_)
  replace hl : lv_has ls 2 [(0, .ref (Bm + v0)), (1, .int x1)] := hl
  have hx := C.1
  have hb := C.2.1
  unfold F_Mo_begin at hF
  refine lv_aload_n hx hb d_Mo_begin_0 rfl (lv_at hl 0 rfl) ?_
  refine rs_getR C hH hT h_v0 fk_11_19 tw_918 d_Mo_begin_1 (fun h51 => ?_)
  refine lv_iconst hx hb d_Mo_begin_4 ki_0 ?_
  refine lv_iconst hx hb d_Mo_begin_5 ki_0 ?_
  obtain ⟨g52, hF⟩ := hF
  refine rs_iast C hH hT hS h51 g52 d_Mo_begin_6 (fun σ53 H locs eσ53 hH hT hS => ?_)
  replace hF := hF σ53 eσ53
  refine lv_aload_n hx hb d_Mo_begin_7 rfl (lv_at hl 0 rfl) ?_
  refine rs_getR C hH hT h_v0 fk_11_19 tw_918 d_Mo_begin_8 (fun h54 => ?_)
  refine lv_iconst hx hb d_Mo_begin_11 ki_1 ?_
  refine lv_iload_n hx hb d_Mo_begin_12 rfl (lv_at hl 1 rfl) ?_
  obtain ⟨g55, hF⟩ := hF
  refine rs_iast C hH hT hS h54 g55 d_Mo_begin_13 (fun σ56 H locs eσ56 hH hT hS => ?_)
  replace hF := hF σ56 eσ56
  refine lv_aload_n hx hb d_Mo_begin_14 rfl (lv_at hl 0 rfl) ?_
  refine lv_iconst hx hb d_Mo_begin_15 ki_2 ?_
  refine rs_putI C hH hT hS h_v0 fk_11_20 rfl tw_919 d_Mo_begin_16 (fun σ57 H locs eσ57 hH hT hS => ?_)
  replace hF := hF σ57 eσ57
  exact rs_vret C hH hT hS hF d_Mo_begin_19
/-! RouteSpeakerModel.add(I)V -/
theorem d_Mo_add_0 : decode prog_12_method_12_code 0 = .ok (.aload_n 0, 1) := by decide +kernel
theorem d_Mo_add_1 : decode prog_12_method_12_code 1 = .ok (.getfield 64, 3) := by decide +kernel
theorem d_Mo_add_4 : decode prog_12_method_12_code 4 = .ok (.aload_n 0, 1) := by decide +kernel
theorem d_Mo_add_5 : decode prog_12_method_12_code 5 = .ok (.getfield 141, 3) := by decide +kernel
theorem d_Mo_add_8 : decode prog_12_method_12_code 8 = .ok (.iload_n 1, 1) := by decide +kernel
theorem d_Mo_add_9 : decode prog_12_method_12_code 9 = .ok (.iastore, 1) := by decide +kernel
theorem d_Mo_add_10 : decode prog_12_method_12_code 10 = .ok (.aload_n 0, 1) := by decide +kernel
theorem d_Mo_add_11 : decode prog_12_method_12_code 11 = .ok (.dup, 1) := by decide +kernel
theorem d_Mo_add_12 : decode prog_12_method_12_code 12 = .ok (.getfield 141, 3) := by decide +kernel
theorem d_Mo_add_15 : decode prog_12_method_12_code 15 = .ok (.iconst 1, 1) := by decide +kernel
theorem d_Mo_add_16 : decode prog_12_method_12_code 16 = .ok (.iadd, 1) := by decide +kernel
theorem d_Mo_add_17 : decode prog_12_method_12_code 17 = .ok (.putfield 141, 3) := by decide +kernel
theorem d_Mo_add_20 : decode prog_12_method_12_code 20 = .ok (.return_, 1) := by decide +kernel
def F_Mo_add (N : Nat → Nat) (v0 : Nat) (x1 : Int32) (σ : rs_Mem) (Q : rs_Mem → Prop) : Prop :=
  (vp_in (rs_I σ v0 20) (N (rs_R σ v0 19)) ∧ ∀ σ53 : rs_Mem, σ53 = rs_sI σ (rs_R σ v0 19) (rs_I σ v0 20).toNatClampNeg x1 → (∀ σ54 : rs_Mem, σ54 = rs_sI σ53 v0 20 ((rs_I σ53 v0 20) + (1 : Int32)) → (Q σ54)))
abbrev y_Mo_add : MethodName := ({ cls := "RouteSpeakerModel", name := "add", desc := "(I)V" } : Jvm.MethodName)
theorem rc_Mo_add : rs_Cal y_Mo_add prog_12_method_12_code 2 none 1 := ⟨tw_1123, tw_11, by decide, by decide, by decide +kernel⟩
set_option maxRecDepth 20000 in
theorem J_Mo_add (l : Launch) {G : rs_G} {Bm : Nat} {S : rs_Shp} {v0 : Nat} {x1 : Int32} {σ : rs_Mem} {Q : rs_Mem → Prop} (h_v0 : rs_Ok S 11 v0) (hF : F_Mo_add S.2.2 v0 x1 σ Q) :
    Met l y_Mo_add (rs_ws y_Mo_add prog_12_method_12_code 2 none) { frames := 0, cells := 0, slots := 0, locals := 0 } (rs_P G Bm S σ [.ref (Bm + v0), .int x1]) (rs_Qv G Bm S Q) 0 0 (rs_A Bm) := by
  refine rs_met (own := "RouteSpeakerModel") (by decide) rfl (Nat.le_of_ble_eq_true rfl) (fun p e s m below meth c ls C hl hH hT hS => ?_)
  replace hl : lv_has ls 2 [(0, .ref (Bm + v0)), (1, .int x1)] := hl
  have hx := C.1
  have hb := C.2.1
  unfold F_Mo_add at hF
  refine lv_aload_n hx hb d_Mo_add_0 rfl (lv_at hl 0 rfl) ?_
  refine rs_getR C hH hT h_v0 fk_11_19 tw_918 d_Mo_add_1 (fun h51 => ?_)
  refine lv_aload_n hx hb d_Mo_add_4 rfl (lv_at hl 0 rfl) ?_
  refine rs_getI C hH h_v0 fk_11_20 tw_919 d_Mo_add_5 ?_
  refine lv_iload_n hx hb d_Mo_add_8 rfl (lv_at hl 1 rfl) ?_
  obtain ⟨g52, hF⟩ := hF
  refine rs_iast C hH hT hS h51 g52 d_Mo_add_9 (fun σ53 H locs eσ53 hH hT hS => ?_)
  replace hF := hF σ53 eσ53
  refine lv_aload_n hx hb d_Mo_add_10 rfl (lv_at hl 0 rfl) ?_
  refine lv_dup hx hb d_Mo_add_11 rfl ?_
  refine rs_getI C hH h_v0 fk_11_20 tw_919 d_Mo_add_12 ?_
  refine lv_iconst hx hb d_Mo_add_15 ki_1 ?_
  refine lv_iadd hx hb d_Mo_add_16 ?_
  refine rs_putI C hH hT hS h_v0 fk_11_20 rfl tw_919 d_Mo_add_17 (fun σ54 H locs eσ54 hH hT hS => ?_)
  replace hF := hF σ54 eσ54
  exact rs_vret C hH hT hS hF d_Mo_add_20
/-! RouteSpeakerModel.close(I)V -/
theorem d_Mo_close_0 : decode prog_12_method_13_code 0 = .ok (.aload_n 0, 1) := by decide +kernel
theorem d_Mo_close_1 : decode prog_12_method_13_code 1 = .ok (.getfield 16, 3) := by decide +kernel
theorem d_Mo_close_4 : decode prog_12_method_13_code 4 = .ok (.iload_n 1, 1) := by decide +kernel
theorem d_Mo_close_5 : decode prog_12_method_13_code 5 = .ok (.iconst 0, 1) := by decide +kernel
theorem d_Mo_close_6 : decode prog_12_method_13_code 6 = .ok (.iastore, 1) := by decide +kernel
theorem d_Mo_close_7 : decode prog_12_method_13_code 7 = .ok (.aload_n 0, 1) := by decide +kernel
theorem d_Mo_close_8 : decode prog_12_method_13_code 8 = .ok (.getfield 55, 3) := by decide +kernel
theorem d_Mo_close_11 : decode prog_12_method_13_code 11 = .ok (.iload_n 1, 1) := by decide +kernel
theorem d_Mo_close_12 : decode prog_12_method_13_code 12 = .ok (.iconst 0, 1) := by decide +kernel
theorem d_Mo_close_13 : decode prog_12_method_13_code 13 = .ok (.iastore, 1) := by decide +kernel
theorem d_Mo_close_14 : decode prog_12_method_13_code 14 = .ok (.aload_n 0, 1) := by decide +kernel
theorem d_Mo_close_15 : decode prog_12_method_13_code 15 = .ok (.getfield 19, 3) := by decide +kernel
theorem d_Mo_close_18 : decode prog_12_method_13_code 18 = .ok (.iload_n 1, 1) := by decide +kernel
theorem d_Mo_close_19 : decode prog_12_method_13_code 19 = .ok (.iconst 0, 1) := by decide +kernel
theorem d_Mo_close_20 : decode prog_12_method_13_code 20 = .ok (.iastore, 1) := by decide +kernel
theorem d_Mo_close_21 : decode prog_12_method_13_code 21 = .ok (.aload_n 0, 1) := by decide +kernel
theorem d_Mo_close_22 : decode prog_12_method_13_code 22 = .ok (.getfield 22, 3) := by decide +kernel
theorem d_Mo_close_25 : decode prog_12_method_13_code 25 = .ok (.iload_n 1, 1) := by decide +kernel
theorem d_Mo_close_26 : decode prog_12_method_13_code 26 = .ok (.iconst 0, 1) := by decide +kernel
theorem d_Mo_close_27 : decode prog_12_method_13_code 27 = .ok (.iastore, 1) := by decide +kernel
theorem d_Mo_close_28 : decode prog_12_method_13_code 28 = .ok (.aload_n 0, 1) := by decide +kernel
theorem d_Mo_close_29 : decode prog_12_method_13_code 29 = .ok (.getfield 25, 3) := by decide +kernel
theorem d_Mo_close_32 : decode prog_12_method_13_code 32 = .ok (.iload_n 1, 1) := by decide +kernel
theorem d_Mo_close_33 : decode prog_12_method_13_code 33 = .ok (.iconst 0, 1) := by decide +kernel
theorem d_Mo_close_34 : decode prog_12_method_13_code 34 = .ok (.iastore, 1) := by decide +kernel
theorem d_Mo_close_35 : decode prog_12_method_13_code 35 = .ok (.aload_n 0, 1) := by decide +kernel
theorem d_Mo_close_36 : decode prog_12_method_13_code 36 = .ok (.getfield 28, 3) := by decide +kernel
theorem d_Mo_close_39 : decode prog_12_method_13_code 39 = .ok (.iload_n 1, 1) := by decide +kernel
theorem d_Mo_close_40 : decode prog_12_method_13_code 40 = .ok (.iconst 0, 1) := by decide +kernel
theorem d_Mo_close_41 : decode prog_12_method_13_code 41 = .ok (.iastore, 1) := by decide +kernel
theorem d_Mo_close_42 : decode prog_12_method_13_code 42 = .ok (.iconst 0, 1) := by decide +kernel
theorem d_Mo_close_43 : decode prog_12_method_13_code 43 = .ok (.istore_n 2, 1) := by decide +kernel
theorem d_Mo_close_44 : decode prog_12_method_13_code 44 = .ok (.iload_n 2, 1) := by decide +kernel
theorem d_Mo_close_45 : decode prog_12_method_13_code 45 = .ok (.bipush (12), 2) := by decide +kernel
theorem d_Mo_close_47 : decode prog_12_method_13_code 47 = .ok (.if_icmp .ge (33), 3) := by decide +kernel
theorem d_Mo_close_50 : decode prog_12_method_13_code 50 = .ok (.aload_n 0, 1) := by decide +kernel
theorem d_Mo_close_51 : decode prog_12_method_13_code 51 = .ok (.getfield 73, 3) := by decide +kernel
theorem d_Mo_close_54 : decode prog_12_method_13_code 54 = .ok (.bipush (12), 2) := by decide +kernel
theorem d_Mo_close_56 : decode prog_12_method_13_code 56 = .ok (.iload_n 1, 1) := by decide +kernel
theorem d_Mo_close_57 : decode prog_12_method_13_code 57 = .ok (.imul, 1) := by decide +kernel
theorem d_Mo_close_58 : decode prog_12_method_13_code 58 = .ok (.iload_n 2, 1) := by decide +kernel
theorem d_Mo_close_59 : decode prog_12_method_13_code 59 = .ok (.iadd, 1) := by decide +kernel
theorem d_Mo_close_60 : decode prog_12_method_13_code 60 = .ok (.iconst 0, 1) := by decide +kernel
theorem d_Mo_close_61 : decode prog_12_method_13_code 61 = .ok (.bastore, 1) := by decide +kernel
theorem d_Mo_close_62 : decode prog_12_method_13_code 62 = .ok (.aload_n 0, 1) := by decide +kernel
theorem d_Mo_close_63 : decode prog_12_method_13_code 63 = .ok (.getfield 111, 3) := by decide +kernel
theorem d_Mo_close_66 : decode prog_12_method_13_code 66 = .ok (.bipush (12), 2) := by decide +kernel
theorem d_Mo_close_68 : decode prog_12_method_13_code 68 = .ok (.iload_n 1, 1) := by decide +kernel
theorem d_Mo_close_69 : decode prog_12_method_13_code 69 = .ok (.imul, 1) := by decide +kernel
theorem d_Mo_close_70 : decode prog_12_method_13_code 70 = .ok (.iload_n 2, 1) := by decide +kernel
theorem d_Mo_close_71 : decode prog_12_method_13_code 71 = .ok (.iadd, 1) := by decide +kernel
theorem d_Mo_close_72 : decode prog_12_method_13_code 72 = .ok (.iconst (-1), 1) := by decide +kernel
theorem d_Mo_close_73 : decode prog_12_method_13_code 73 = .ok (.iastore, 1) := by decide +kernel
theorem d_Mo_close_74 : decode prog_12_method_13_code 74 = .ok (.iinc 2 (1), 3) := by decide +kernel
theorem d_Mo_close_77 : decode prog_12_method_13_code 77 = .ok (.goto (-33), 3) := by decide +kernel
theorem d_Mo_close_80 : decode prog_12_method_13_code 80 = .ok (.return_, 1) := by decide +kernel
def G_Mo_close_44 (N : Nat → Nat) (Q : rs_Mem → Prop) (K44 : Nat → Int32 → Int32 → rs_Mem → Prop) (v0 : Nat) (x1 : Int32) (x2 : Int32) (σ : rs_Mem) : Prop :=
  (((12 : Int32) ≤ x2 → (Q σ)) ∧ (¬ ((12 : Int32) ≤ x2) → (vp_in (((12 : Int32) * x1) + x2) (N (rs_R σ v0 24)) ∧ ∀ σ53 : rs_Mem, σ53 = rs_sI σ (rs_R σ v0 24) (((12 : Int32) * x1) + x2).toNatClampNeg (0 : Int32) → (vp_in (((12 : Int32) * x1) + x2) (N (rs_R σ53 v0 36)) ∧ ∀ σ56 : rs_Mem, σ56 = rs_sI σ53 (rs_R σ53 v0 36) (((12 : Int32) * x1) + x2).toNatClampNeg (-1 : Int32) → (∀ x57 : Int32, x57 = x2 + (1 : Int32) → (K44 v0 x1 x57 σ56))))))
noncomputable def L_Mo_close_44 (N : Nat → Nat) (Q : rs_Mem → Prop) (n : Nat) : Nat → Int32 → Int32 → rs_Mem → Prop := Nat.rec (motive := fun _ => Nat → Int32 → Int32 → rs_Mem → Prop) (fun _ _ _ _ => False) (fun _ K => G_Mo_close_44 N Q K) n
def F_Mo_close (N : Nat → Nat) (v0 : Nat) (x1 : Int32) (σ : rs_Mem) (Q : rs_Mem → Prop) : Prop :=
  (vp_in x1 (N (rs_R σ v0 3)) ∧ ∀ σ53 : rs_Mem, σ53 = rs_sI σ (rs_R σ v0 3) x1.toNatClampNeg (0 : Int32) → (vp_in x1 (N (rs_R σ53 v0 16)) ∧ ∀ σ56 : rs_Mem, σ56 = rs_sI σ53 (rs_R σ53 v0 16) x1.toNatClampNeg (0 : Int32) → (vp_in x1 (N (rs_R σ56 v0 4)) ∧ ∀ σ59 : rs_Mem, σ59 = rs_sI σ56 (rs_R σ56 v0 4) x1.toNatClampNeg (0 : Int32) → (vp_in x1 (N (rs_R σ59 v0 5)) ∧ ∀ σ62 : rs_Mem, σ62 = rs_sI σ59 (rs_R σ59 v0 5) x1.toNatClampNeg (0 : Int32) → (vp_in x1 (N (rs_R σ62 v0 6)) ∧ ∀ σ65 : rs_Mem, σ65 = rs_sI σ62 (rs_R σ62 v0 6) x1.toNatClampNeg (0 : Int32) → (vp_in x1 (N (rs_R σ65 v0 7)) ∧ ∀ σ68 : rs_Mem, σ68 = rs_sI σ65 (rs_R σ65 v0 7) x1.toNatClampNeg (0 : Int32) → (∃ n : Nat, L_Mo_close_44 N Q n v0 x1 (0 : Int32) σ68)))))))
set_option maxRecDepth 20000 in
theorem JL_Mo_close_44 {p : Program} {l : Launch} {e : Env} {s : State} {m : MethodId} {args : Array Value} {below : List Frame} {meth : Method} {c : Code} {G : rs_G} {Bm : Nat} {S : rs_Shp} {Q : rs_Mem → Prop} (C : rs_C "RouteSpeakerModel" prog_12_method_13_code 3 none G p s m meth c args) : ∀ n : Nat, ∀ (v0 : Nat) (x1 : Int32) (x2 : Int32) (σ : rs_Mem) (H : Heap) (locs : List Loc) (ls : Array Slot), rs_Ok S 11 v0 → rs_H G Bm S σ H → rs_T S σ → va_S (rs_A Bm) s.heap H locs → lv_has ls 3 [(0, .ref (Bm + v0)), (1, .int x1), (2, .int x2)] → (L_Mo_close_44 S.2.2 Q n) v0 x1 x2 σ → W p l e { frames := 0, cells := 0, slots := 0, locals := 0 } s m args below meth c H locs 0 0 (MQ below (rs_Qv G Bm S Q) args s 0 0 (rs_A Bm)) (F0 m 44 ls []) := by
  have hx := C.1
  have hb := C.2.1
  intro n
  induction n with
  | zero => intros; rename_i hF; exact hF.elim
  | succ n hK44 =>
    intro v0 x1 x2 σ H locs ls h_v0 hH hT hS hl hF
    replace hF : G_Mo_close_44 S.2.2 Q (L_Mo_close_44 S.2.2 Q n) v0 x1 x2 σ := hF
    unfold G_Mo_close_44 at hF
    refine lv_iload_n hx hb d_Mo_close_44 rfl (lv_at hl 2 rfl) ?_
    refine lv_bipush hx hb d_Mo_close_45 kb_12 ?_
    refine lv_icmp_ge hx hb d_Mo_close_47 (tgt := 80) rfl (fun hc => ?_) (fun hc => ?_)
    · replace hF := hF.1 hc
      exact rs_vret C hH hT hS hF d_Mo_close_80
    · replace hF := hF.2 hc
      refine lv_aload_n hx hb d_Mo_close_50 rfl (lv_at hl 0 rfl) ?_
      refine rs_getR C hH hT h_v0 fk_11_24 tw_923 d_Mo_close_51 (fun h51 => ?_)
      refine lv_bipush hx hb d_Mo_close_54 kb_12 ?_
      refine lv_iload_n hx hb d_Mo_close_56 rfl (lv_at hl 1 rfl) ?_
      refine lv_imul hx hb d_Mo_close_57 ?_
      refine lv_iload_n hx hb d_Mo_close_58 rfl (lv_at hl 2 rfl) ?_
      refine lv_iadd hx hb d_Mo_close_59 ?_
      refine lv_iconst hx hb d_Mo_close_60 ki_0 ?_
      obtain ⟨g52, hF⟩ := hF
      refine rs_zast C hH hT hS (by decide) h51 g52 d_Mo_close_61 (fun σ53 H locs eσ53 hH hT hS => ?_)
      replace hF := hF σ53 eσ53
      refine lv_aload_n hx hb d_Mo_close_62 rfl (lv_at hl 0 rfl) ?_
      refine rs_getR C hH hT h_v0 fk_11_36 tw_935 d_Mo_close_63 (fun h54 => ?_)
      refine lv_bipush hx hb d_Mo_close_66 kb_12 ?_
      refine lv_iload_n hx hb d_Mo_close_68 rfl (lv_at hl 1 rfl) ?_
      refine lv_imul hx hb d_Mo_close_69 ?_
      refine lv_iload_n hx hb d_Mo_close_70 rfl (lv_at hl 2 rfl) ?_
      refine lv_iadd hx hb d_Mo_close_71 ?_
      refine lv_iconst hx hb d_Mo_close_72 ki_m1 ?_
      obtain ⟨g55, hF⟩ := hF
      refine rs_iast C hH hT hS h54 g55 d_Mo_close_73 (fun σ56 H locs eσ56 hH hT hS => ?_)
      replace hF := hF σ56 eσ56
      obtain ⟨x57, ex57⟩ : ∃ z : Int32, z = x2 + (1 : Int32) := ⟨_, rfl⟩
      replace hF := hF x57 ex57
      refine lv_iinc hx hb d_Mo_close_74 hl (k := 2) rfl (v := x57) (by rw [ki_1, ex57]) (by decide) (lv' := [(2, .int x57), (0, .ref (Bm + v0)), (1, .int x1)]) rfl (fun ls hl => ?_)
      refine lv_goto hx hb d_Mo_close_77 (tgt := 44) rfl ?_
      exact hK44 v0 x1 x57 σ56 _ _ _ h_v0 hH hT hS (lv_sub hl [1, 2, 0] rfl) hF
abbrev y_Mo_close : MethodName := ({ cls := "RouteSpeakerModel", name := "close", desc := "(I)V" } : Jvm.MethodName)
theorem rc_Mo_close : rs_Cal y_Mo_close prog_12_method_13_code 3 none 1 := ⟨tw_1131, tw_11, by decide, by decide, by decide +kernel⟩
set_option maxRecDepth 20000 in
theorem J_Mo_close (l : Launch) {G : rs_G} {Bm : Nat} {S : rs_Shp} {v0 : Nat} {x1 : Int32} {σ : rs_Mem} {Q : rs_Mem → Prop} (h_v0 : rs_Ok S 11 v0) (hF : F_Mo_close S.2.2 v0 x1 σ Q) :
    Met l y_Mo_close (rs_ws y_Mo_close prog_12_method_13_code 3 none) { frames := 0, cells := 0, slots := 0, locals := 0 } (rs_P G Bm S σ [.ref (Bm + v0), .int x1]) (rs_Qv G Bm S Q) 0 0 (rs_A Bm) := by
  refine rs_met (own := "RouteSpeakerModel") (by decide) rfl (Nat.le_of_ble_eq_true rfl) (fun p e s m below meth c ls C hl hH hT hS => ?_)
  replace hl : lv_has ls 3 [(0, .ref (Bm + v0)), (1, .int x1)] := hl
  have hx := C.1
  have hb := C.2.1
  unfold F_Mo_close at hF
  refine lv_aload_n hx hb d_Mo_close_0 rfl (lv_at hl 0 rfl) ?_
  refine rs_getR C hH hT h_v0 fk_11_3 tw_902 d_Mo_close_1 (fun h51 => ?_)
  refine lv_iload_n hx hb d_Mo_close_4 rfl (lv_at hl 1 rfl) ?_
  refine lv_iconst hx hb d_Mo_close_5 ki_0 ?_
  obtain ⟨g52, hF⟩ := hF
  refine rs_iast C hH hT hS h51 g52 d_Mo_close_6 (fun σ53 H locs eσ53 hH hT hS => ?_)
  replace hF := hF σ53 eσ53
  refine lv_aload_n hx hb d_Mo_close_7 rfl (lv_at hl 0 rfl) ?_
  refine rs_getR C hH hT h_v0 fk_11_16 tw_915 d_Mo_close_8 (fun h54 => ?_)
  refine lv_iload_n hx hb d_Mo_close_11 rfl (lv_at hl 1 rfl) ?_
  refine lv_iconst hx hb d_Mo_close_12 ki_0 ?_
  obtain ⟨g55, hF⟩ := hF
  refine rs_iast C hH hT hS h54 g55 d_Mo_close_13 (fun σ56 H locs eσ56 hH hT hS => ?_)
  replace hF := hF σ56 eσ56
  refine lv_aload_n hx hb d_Mo_close_14 rfl (lv_at hl 0 rfl) ?_
  refine rs_getR C hH hT h_v0 fk_11_4 tw_903 d_Mo_close_15 (fun h57 => ?_)
  refine lv_iload_n hx hb d_Mo_close_18 rfl (lv_at hl 1 rfl) ?_
  refine lv_iconst hx hb d_Mo_close_19 ki_0 ?_
  obtain ⟨g58, hF⟩ := hF
  refine rs_iast C hH hT hS h57 g58 d_Mo_close_20 (fun σ59 H locs eσ59 hH hT hS => ?_)
  replace hF := hF σ59 eσ59
  refine lv_aload_n hx hb d_Mo_close_21 rfl (lv_at hl 0 rfl) ?_
  refine rs_getR C hH hT h_v0 fk_11_5 tw_904 d_Mo_close_22 (fun h60 => ?_)
  refine lv_iload_n hx hb d_Mo_close_25 rfl (lv_at hl 1 rfl) ?_
  refine lv_iconst hx hb d_Mo_close_26 ki_0 ?_
  obtain ⟨g61, hF⟩ := hF
  refine rs_iast C hH hT hS h60 g61 d_Mo_close_27 (fun σ62 H locs eσ62 hH hT hS => ?_)
  replace hF := hF σ62 eσ62
  refine lv_aload_n hx hb d_Mo_close_28 rfl (lv_at hl 0 rfl) ?_
  refine rs_getR C hH hT h_v0 fk_11_6 tw_905 d_Mo_close_29 (fun h63 => ?_)
  refine lv_iload_n hx hb d_Mo_close_32 rfl (lv_at hl 1 rfl) ?_
  refine lv_iconst hx hb d_Mo_close_33 ki_0 ?_
  obtain ⟨g64, hF⟩ := hF
  refine rs_iast C hH hT hS h63 g64 d_Mo_close_34 (fun σ65 H locs eσ65 hH hT hS => ?_)
  replace hF := hF σ65 eσ65
  refine lv_aload_n hx hb d_Mo_close_35 rfl (lv_at hl 0 rfl) ?_
  refine rs_getR C hH hT h_v0 fk_11_7 tw_906 d_Mo_close_36 (fun h66 => ?_)
  refine lv_iload_n hx hb d_Mo_close_39 rfl (lv_at hl 1 rfl) ?_
  refine lv_iconst hx hb d_Mo_close_40 ki_0 ?_
  obtain ⟨g67, hF⟩ := hF
  refine rs_iast C hH hT hS h66 g67 d_Mo_close_41 (fun σ68 H locs eσ68 hH hT hS => ?_)
  replace hF := hF σ68 eσ68
  refine lv_iconst hx hb d_Mo_close_42 ki_0 ?_
  refine lv_istore_n hx hb d_Mo_close_43 rfl hl (by decide) (lv' := [(2, .int (0 : Int32)), (0, .ref (Bm + v0)), (1, .int x1)]) rfl (fun ls hl => ?_)
  obtain ⟨n, hF⟩ := hF
  exact JL_Mo_close_44 C n v0 x1 (0 : Int32) σ68 _ _ _ h_v0 hH hT hS (lv_sub hl [1, 2, 0] rfl) hF
/-! RouteSpeakerModel.send(I)Z -/
theorem d_Mo_send_0 : decode prog_12_method_14_code 0 = .ok (.aload_n 0, 1) := by decide +kernel
theorem d_Mo_send_1 : decode prog_12_method_14_code 1 = .ok (.getfield 64, 3) := by decide +kernel
theorem d_Mo_send_4 : decode prog_12_method_14_code 4 = .ok (.iconst 0, 1) := by decide +kernel
theorem d_Mo_send_5 : decode prog_12_method_14_code 5 = .ok (.aload_n 0, 1) := by decide +kernel
theorem d_Mo_send_6 : decode prog_12_method_14_code 6 = .ok (.getfield 141, 3) := by decide +kernel
theorem d_Mo_send_9 : decode prog_12_method_14_code 9 = .ok (.iastore, 1) := by decide +kernel
theorem d_Mo_send_10 : decode prog_12_method_14_code 10 = .ok (.aload_n 0, 1) := by decide +kernel
theorem d_Mo_send_11 : decode prog_12_method_14_code 11 = .ok (.getfield 61, 3) := by decide +kernel
theorem d_Mo_send_14 : decode prog_12_method_14_code 14 = .ok (.iload_n 1, 1) := by decide +kernel
theorem d_Mo_send_15 : decode prog_12_method_14_code 15 = .ok (.iaload, 1) := by decide +kernel
theorem d_Mo_send_16 : decode prog_12_method_14_code 16 = .ok (.aload_n 0, 1) := by decide +kernel
theorem d_Mo_send_17 : decode prog_12_method_14_code 17 = .ok (.getfield 141, 3) := by decide +kernel
theorem d_Mo_send_20 : decode prog_12_method_14_code 20 = .ok (.iadd, 1) := by decide +kernel
theorem d_Mo_send_21 : decode prog_12_method_14_code 21 = .ok (.sipush (200), 3) := by decide +kernel
theorem d_Mo_send_24 : decode prog_12_method_14_code 24 = .ok (.if_icmp .le (10), 3) := by decide +kernel
theorem d_Mo_send_27 : decode prog_12_method_14_code 27 = .ok (.aload_n 0, 1) := by decide +kernel
theorem d_Mo_send_28 : decode prog_12_method_14_code 28 = .ok (.iload_n 1, 1) := by decide +kernel
theorem d_Mo_send_29 : decode prog_12_method_14_code 29 = .ok (.invokevirtual 144, 3) := by decide +kernel
theorem d_Mo_send_32 : decode prog_12_method_14_code 32 = .ok (.iconst 0, 1) := by decide +kernel
theorem d_Mo_send_33 : decode prog_12_method_14_code 33 = .ok (.ireturn, 1) := by decide +kernel
theorem d_Mo_send_34 : decode prog_12_method_14_code 34 = .ok (.iconst 0, 1) := by decide +kernel
theorem d_Mo_send_35 : decode prog_12_method_14_code 35 = .ok (.istore_n 2, 1) := by decide +kernel
theorem d_Mo_send_36 : decode prog_12_method_14_code 36 = .ok (.iload_n 2, 1) := by decide +kernel
theorem d_Mo_send_37 : decode prog_12_method_14_code 37 = .ok (.aload_n 0, 1) := by decide +kernel
theorem d_Mo_send_38 : decode prog_12_method_14_code 38 = .ok (.getfield 141, 3) := by decide +kernel
theorem d_Mo_send_41 : decode prog_12_method_14_code 41 = .ok (.if_icmp .ge (34), 3) := by decide +kernel
theorem d_Mo_send_44 : decode prog_12_method_14_code 44 = .ok (.aload_n 0, 1) := by decide +kernel
theorem d_Mo_send_45 : decode prog_12_method_14_code 45 = .ok (.getfield 58, 3) := by decide +kernel
theorem d_Mo_send_48 : decode prog_12_method_14_code 48 = .ok (.sipush (200), 3) := by decide +kernel
theorem d_Mo_send_51 : decode prog_12_method_14_code 51 = .ok (.iload_n 1, 1) := by decide +kernel
theorem d_Mo_send_52 : decode prog_12_method_14_code 52 = .ok (.imul, 1) := by decide +kernel
theorem d_Mo_send_53 : decode prog_12_method_14_code 53 = .ok (.aload_n 0, 1) := by decide +kernel
theorem d_Mo_send_54 : decode prog_12_method_14_code 54 = .ok (.getfield 61, 3) := by decide +kernel
theorem d_Mo_send_57 : decode prog_12_method_14_code 57 = .ok (.iload_n 1, 1) := by decide +kernel
theorem d_Mo_send_58 : decode prog_12_method_14_code 58 = .ok (.iaload, 1) := by decide +kernel
theorem d_Mo_send_59 : decode prog_12_method_14_code 59 = .ok (.iadd, 1) := by decide +kernel
theorem d_Mo_send_60 : decode prog_12_method_14_code 60 = .ok (.iload_n 2, 1) := by decide +kernel
theorem d_Mo_send_61 : decode prog_12_method_14_code 61 = .ok (.iadd, 1) := by decide +kernel
theorem d_Mo_send_62 : decode prog_12_method_14_code 62 = .ok (.aload_n 0, 1) := by decide +kernel
theorem d_Mo_send_63 : decode prog_12_method_14_code 63 = .ok (.getfield 64, 3) := by decide +kernel
theorem d_Mo_send_66 : decode prog_12_method_14_code 66 = .ok (.iload_n 2, 1) := by decide +kernel
theorem d_Mo_send_67 : decode prog_12_method_14_code 67 = .ok (.iaload, 1) := by decide +kernel
theorem d_Mo_send_68 : decode prog_12_method_14_code 68 = .ok (.iastore, 1) := by decide +kernel
theorem d_Mo_send_69 : decode prog_12_method_14_code 69 = .ok (.iinc 2 (1), 3) := by decide +kernel
theorem d_Mo_send_72 : decode prog_12_method_14_code 72 = .ok (.goto (-36), 3) := by decide +kernel
theorem d_Mo_send_75 : decode prog_12_method_14_code 75 = .ok (.aload_n 0, 1) := by decide +kernel
theorem d_Mo_send_76 : decode prog_12_method_14_code 76 = .ok (.getfield 61, 3) := by decide +kernel
theorem d_Mo_send_79 : decode prog_12_method_14_code 79 = .ok (.iload_n 1, 1) := by decide +kernel
theorem d_Mo_send_80 : decode prog_12_method_14_code 80 = .ok (.dup2, 1) := by decide +kernel
theorem d_Mo_send_81 : decode prog_12_method_14_code 81 = .ok (.iaload, 1) := by decide +kernel
theorem d_Mo_send_82 : decode prog_12_method_14_code 82 = .ok (.aload_n 0, 1) := by decide +kernel
theorem d_Mo_send_83 : decode prog_12_method_14_code 83 = .ok (.getfield 141, 3) := by decide +kernel
theorem d_Mo_send_86 : decode prog_12_method_14_code 86 = .ok (.iadd, 1) := by decide +kernel
theorem d_Mo_send_87 : decode prog_12_method_14_code 87 = .ok (.iastore, 1) := by decide +kernel
theorem d_Mo_send_88 : decode prog_12_method_14_code 88 = .ok (.iconst 1, 1) := by decide +kernel
theorem d_Mo_send_89 : decode prog_12_method_14_code 89 = .ok (.ireturn, 1) := by decide +kernel
def G_Mo_send_36 (N : Nat → Nat) (Q : Int32 → rs_Mem → Prop) (K36 : Nat → Int32 → Int32 → rs_Mem → Prop) (v0 : Nat) (x1 : Int32) (x2 : Int32) (σ : rs_Mem) : Prop :=
  (((rs_I σ v0 20) ≤ x2 → (vp_in x1 (N (rs_R σ v0 18)) ∧ (vp_in x1 (N (rs_R σ v0 18)) ∧ ∀ σ54 : rs_Mem, σ54 = rs_sI σ (rs_R σ v0 18) x1.toNatClampNeg ((rs_I σ (rs_R σ v0 18) x1.toNatClampNeg) + (rs_I σ v0 20)) → (Q (1 : Int32) σ54)))) ∧ (¬ ((rs_I σ v0 20) ≤ x2) → (vp_in x1 (N (rs_R σ v0 18)) ∧ (vp_in x2 (N (rs_R σ v0 19)) ∧ (vp_in ((((200 : Int32) * x1) + (rs_I σ (rs_R σ v0 18) x1.toNatClampNeg)) + x2) (N (rs_R σ v0 17)) ∧ ∀ σ57 : rs_Mem, σ57 = rs_sI σ (rs_R σ v0 17) ((((200 : Int32) * x1) + (rs_I σ (rs_R σ v0 18) x1.toNatClampNeg)) + x2).toNatClampNeg (rs_I σ (rs_R σ v0 19) x2.toNatClampNeg) → (∀ x58 : Int32, x58 = x2 + (1 : Int32) → (K36 v0 x1 x58 σ57)))))))
noncomputable def L_Mo_send_36 (N : Nat → Nat) (Q : Int32 → rs_Mem → Prop) (n : Nat) : Nat → Int32 → Int32 → rs_Mem → Prop := Nat.rec (motive := fun _ => Nat → Int32 → Int32 → rs_Mem → Prop) (fun _ _ _ _ => False) (fun _ K => G_Mo_send_36 N Q K) n
def F_Mo_send (N : Nat → Nat) (v0 : Nat) (x1 : Int32) (σ : rs_Mem) (Q : Int32 → rs_Mem → Prop) : Prop :=
  (vp_in (0 : Int32) (N (rs_R σ v0 19)) ∧ ∀ σ53 : rs_Mem, σ53 = rs_sI σ (rs_R σ v0 19) (0 : Int32).toNatClampNeg (rs_I σ v0 20) → (vp_in x1 (N (rs_R σ53 v0 18)) ∧ ((((rs_I σ53 (rs_R σ53 v0 18) x1.toNatClampNeg) + (rs_I σ53 v0 20)) ≤ (200 : Int32) → (∃ n : Nat, L_Mo_send_36 N Q n v0 x1 (0 : Int32) σ53)) ∧ (¬ (((rs_I σ53 (rs_R σ53 v0 18) x1.toNatClampNeg) + (rs_I σ53 v0 20)) ≤ (200 : Int32)) → (F_Mo_close N v0 x1 σ53 (fun σ56 => (Q (0 : Int32) σ56)))))))
set_option maxRecDepth 20000 in
theorem JL_Mo_send_36 {p : Program} {l : Launch} {e : Env} {s : State} {m : MethodId} {args : Array Value} {below : List Frame} {meth : Method} {c : Code} {G : rs_G} {Bm : Nat} {S : rs_Shp} {Q : Int32 → rs_Mem → Prop} (C : rs_C "RouteSpeakerModel" prog_12_method_14_code 3 (some .boolean) G p s m meth c args) : ∀ n : Nat, ∀ (v0 : Nat) (x1 : Int32) (x2 : Int32) (σ : rs_Mem) (H : Heap) (locs : List Loc) (ls : Array Slot), rs_Ok S 11 v0 → rs_H G Bm S σ H → rs_T S σ → va_S (rs_A Bm) s.heap H locs → lv_has ls 3 [(0, .ref (Bm + v0)), (1, .int x1), (2, .int x2)] → (L_Mo_send_36 S.2.2 Q n) v0 x1 x2 σ → W p l e { frames := 1, cells := 0, slots := 0, locals := 22 } s m args below meth c H locs 0 0 (MQ below (rs_Qi G Bm S Q) args s 0 0 (rs_A Bm)) (F0 m 36 ls []) := by
  have hx := C.1
  have hb := C.2.1
  intro n
  induction n with
  | zero => intros; rename_i hF; exact hF.elim
  | succ n hK36 =>
    intro v0 x1 x2 σ H locs ls h_v0 hH hT hS hl hF
    replace hF : G_Mo_send_36 S.2.2 Q (L_Mo_send_36 S.2.2 Q n) v0 x1 x2 σ := hF
    unfold G_Mo_send_36 at hF
    refine lv_iload_n hx hb d_Mo_send_36 rfl (lv_at hl 2 rfl) ?_
    refine lv_aload_n hx hb d_Mo_send_37 rfl (lv_at hl 0 rfl) ?_
    refine rs_getI C hH h_v0 fk_11_20 tw_919 d_Mo_send_38 ?_
    refine lv_icmp_ge hx hb d_Mo_send_41 (tgt := 75) rfl (fun hc => ?_) (fun hc => ?_)
    · replace hF := hF.1 hc
      refine lv_aload_n hx hb d_Mo_send_75 rfl (lv_at hl 0 rfl) ?_
      refine rs_getR C hH hT h_v0 fk_11_18 tw_917 d_Mo_send_76 (fun h51 => ?_)
      refine lv_iload_n hx hb d_Mo_send_79 rfl (lv_at hl 1 rfl) ?_
      refine lv_dup2_11 hx hb d_Mo_send_80 rfl rfl ?_
      obtain ⟨g52, hF⟩ := hF
      refine rs_iald C hH h51 g52 d_Mo_send_81 ?_
      refine lv_aload_n hx hb d_Mo_send_82 rfl (lv_at hl 0 rfl) ?_
      refine rs_getI C hH h_v0 fk_11_20 tw_919 d_Mo_send_83 ?_
      refine lv_iadd hx hb d_Mo_send_86 ?_
      obtain ⟨g53, hF⟩ := hF
      refine rs_iast C hH hT hS h51 g53 d_Mo_send_87 (fun σ54 H locs eσ54 hH hT hS => ?_)
      replace hF := hF σ54 eσ54
      refine lv_iconst hx hb d_Mo_send_88 ki_1 ?_
      exact rs_zret C hH hT hS (by decide) hF d_Mo_send_89
    · replace hF := hF.2 hc
      refine lv_aload_n hx hb d_Mo_send_44 rfl (lv_at hl 0 rfl) ?_
      refine rs_getR C hH hT h_v0 fk_11_17 tw_916 d_Mo_send_45 (fun h51 => ?_)
      refine lv_sipush hx hb d_Mo_send_48 ks_200 ?_
      refine lv_iload_n hx hb d_Mo_send_51 rfl (lv_at hl 1 rfl) ?_
      refine lv_imul hx hb d_Mo_send_52 ?_
      refine lv_aload_n hx hb d_Mo_send_53 rfl (lv_at hl 0 rfl) ?_
      refine rs_getR C hH hT h_v0 fk_11_18 tw_917 d_Mo_send_54 (fun h52 => ?_)
      refine lv_iload_n hx hb d_Mo_send_57 rfl (lv_at hl 1 rfl) ?_
      obtain ⟨g53, hF⟩ := hF
      refine rs_iald C hH h52 g53 d_Mo_send_58 ?_
      refine lv_iadd hx hb d_Mo_send_59 ?_
      refine lv_iload_n hx hb d_Mo_send_60 rfl (lv_at hl 2 rfl) ?_
      refine lv_iadd hx hb d_Mo_send_61 ?_
      refine lv_aload_n hx hb d_Mo_send_62 rfl (lv_at hl 0 rfl) ?_
      refine rs_getR C hH hT h_v0 fk_11_19 tw_918 d_Mo_send_63 (fun h54 => ?_)
      refine lv_iload_n hx hb d_Mo_send_66 rfl (lv_at hl 2 rfl) ?_
      obtain ⟨g55, hF⟩ := hF
      refine rs_iald C hH h54 g55 d_Mo_send_67 ?_
      obtain ⟨g56, hF⟩ := hF
      refine rs_iast C hH hT hS h51 g56 d_Mo_send_68 (fun σ57 H locs eσ57 hH hT hS => ?_)
      replace hF := hF σ57 eσ57
      obtain ⟨x58, ex58⟩ : ∃ z : Int32, z = x2 + (1 : Int32) := ⟨_, rfl⟩
      replace hF := hF x58 ex58
      refine lv_iinc hx hb d_Mo_send_69 hl (k := 2) rfl (v := x58) (by rw [ki_1, ex58]) (by decide) (lv' := [(2, .int x58), (0, .ref (Bm + v0)), (1, .int x1)]) rfl (fun ls hl => ?_)
      refine lv_goto hx hb d_Mo_send_72 (tgt := 36) rfl ?_
      exact hK36 v0 x1 x58 σ57 _ _ _ h_v0 hH hT hS (lv_sub hl [1, 2, 0] rfl) hF
abbrev y_Mo_send : MethodName := ({ cls := "RouteSpeakerModel", name := "send", desc := "(I)Z" } : Jvm.MethodName)
theorem rc_Mo_send : rs_Cal y_Mo_send prog_12_method_14_code 3 (some .boolean) 1 := ⟨tw_1127, tw_11, by decide, by decide, by decide +kernel⟩
set_option maxRecDepth 20000 in
theorem J_Mo_send (l : Launch) {G : rs_G} {Bm : Nat} {S : rs_Shp} {v0 : Nat} {x1 : Int32} {σ : rs_Mem} {Q : Int32 → rs_Mem → Prop} (h_v0 : rs_Ok S 11 v0) (hF : F_Mo_send S.2.2 v0 x1 σ Q) :
    Met l y_Mo_send (rs_ws y_Mo_send prog_12_method_14_code 3 (some .boolean)) { frames := 1, cells := 0, slots := 0, locals := 22 } (rs_P G Bm S σ [.ref (Bm + v0), .int x1]) (rs_Qi G Bm S Q) 0 0 (rs_A Bm) := by
  refine rs_met (own := "RouteSpeakerModel") (by decide) rfl (Nat.le_of_ble_eq_true rfl) (fun p e s m below meth c ls C hl hH hT hS => ?_)
  replace hl : lv_has ls 3 [(0, .ref (Bm + v0)), (1, .int x1)] := hl
  have hx := C.1
  have hb := C.2.1
  unfold F_Mo_send at hF
  refine lv_aload_n hx hb d_Mo_send_0 rfl (lv_at hl 0 rfl) ?_
  refine rs_getR C hH hT h_v0 fk_11_19 tw_918 d_Mo_send_1 (fun h51 => ?_)
  refine lv_iconst hx hb d_Mo_send_4 ki_0 ?_
  refine lv_aload_n hx hb d_Mo_send_5 rfl (lv_at hl 0 rfl) ?_
  refine rs_getI C hH h_v0 fk_11_20 tw_919 d_Mo_send_6 ?_
  obtain ⟨g52, hF⟩ := hF
  refine rs_iast C hH hT hS h51 g52 d_Mo_send_9 (fun σ53 H locs eσ53 hH hT hS => ?_)
  replace hF := hF σ53 eσ53
  refine lv_aload_n hx hb d_Mo_send_10 rfl (lv_at hl 0 rfl) ?_
  refine rs_getR C hH hT h_v0 fk_11_18 tw_917 d_Mo_send_11 (fun h54 => ?_)
  refine lv_iload_n hx hb d_Mo_send_14 rfl (lv_at hl 1 rfl) ?_
  obtain ⟨g55, hF⟩ := hF
  refine rs_iald C hH h54 g55 d_Mo_send_15 ?_
  refine lv_aload_n hx hb d_Mo_send_16 rfl (lv_at hl 0 rfl) ?_
  refine rs_getI C hH h_v0 fk_11_20 tw_919 d_Mo_send_17 ?_
  refine lv_iadd hx hb d_Mo_send_20 ?_
  refine lv_sipush hx hb d_Mo_send_21 ks_200 ?_
  refine lv_icmp_le hx hb d_Mo_send_24 (tgt := 34) rfl (fun hc => ?_) (fun hc => ?_)
  · replace hF := hF.1 hc
    refine lv_iconst hx hb d_Mo_send_34 ki_0 ?_
    refine lv_istore_n hx hb d_Mo_send_35 rfl hl (by decide) (lv' := [(2, .int (0 : Int32)), (0, .ref (Bm + v0)), (1, .int x1)]) rfl (fun ls hl => ?_)
    obtain ⟨n, hF⟩ := hF
    exact JL_Mo_send_36 C n v0 x1 (0 : Int32) σ53 _ _ _ h_v0 hH hT hS (lv_sub hl [1, 2, 0] rfl) hF
  · replace hF := hF.2 hc
    refine lv_aload_n hx hb d_Mo_send_27 rfl (lv_at hl 0 rfl) ?_
    refine lv_iload_n hx hb d_Mo_send_28 rfl (lv_at hl 1 rfl) ?_
    refine rs_cv (rs_runV C hH hT hl (J_Mo_close l h_v0 hF) rc_Mo_close tw_1128 tw_1130 ts_55 h_v0 ⟨rfl, by decide, by decide⟩ rfl ⟨⟨rfl, rfl⟩, by decide, by decide, by decide⟩ (Nat.le_of_ble_eq_true rfl) rfl d_Mo_send_29) hS (fun σ56 H locs hH hT hS hF => ?_)
    refine lv_iconst hx hb d_Mo_send_32 ki_0 ?_
    exact rs_zret C hH hT hS (by decide) hF d_Mo_send_33
/-! RouteSpeakerModel.end(III)V -/
theorem d_Mo_end_0 : decode prog_12_method_15_code 0 = .ok (.aload_n 0, 1) := by decide +kernel
theorem d_Mo_end_1 : decode prog_12_method_15_code 1 = .ok (.iconst 3, 1) := by decide +kernel
theorem d_Mo_end_2 : decode prog_12_method_15_code 2 = .ok (.invokevirtual 148, 3) := by decide +kernel
theorem d_Mo_end_5 : decode prog_12_method_15_code 5 = .ok (.aload_n 0, 1) := by decide +kernel
theorem d_Mo_end_6 : decode prog_12_method_15_code 6 = .ok (.iload_n 2, 1) := by decide +kernel
theorem d_Mo_end_7 : decode prog_12_method_15_code 7 = .ok (.invokevirtual 151, 3) := by decide +kernel
theorem d_Mo_end_10 : decode prog_12_method_15_code 10 = .ok (.aload_n 0, 1) := by decide +kernel
theorem d_Mo_end_11 : decode prog_12_method_15_code 11 = .ok (.iload_n 3, 1) := by decide +kernel
theorem d_Mo_end_12 : decode prog_12_method_15_code 12 = .ok (.invokevirtual 151, 3) := by decide +kernel
theorem d_Mo_end_15 : decode prog_12_method_15_code 15 = .ok (.aload_n 0, 1) := by decide +kernel
theorem d_Mo_end_16 : decode prog_12_method_15_code 16 = .ok (.iload_n 1, 1) := by decide +kernel
theorem d_Mo_end_17 : decode prog_12_method_15_code 17 = .ok (.invokevirtual 154, 3) := by decide +kernel
theorem d_Mo_end_20 : decode prog_12_method_15_code 20 = .ok (.ifCond .eq (8), 3) := by decide +kernel
theorem d_Mo_end_23 : decode prog_12_method_15_code 23 = .ok (.aload_n 0, 1) := by decide +kernel
theorem d_Mo_end_24 : decode prog_12_method_15_code 24 = .ok (.iload_n 1, 1) := by decide +kernel
theorem d_Mo_end_25 : decode prog_12_method_15_code 25 = .ok (.invokevirtual 144, 3) := by decide +kernel
theorem d_Mo_end_28 : decode prog_12_method_15_code 28 = .ok (.return_, 1) := by decide +kernel
def F_Mo_end (N : Nat → Nat) (v0 : Nat) (x1 : Int32) (x2 : Int32) (x3 : Int32) (σ : rs_Mem) (Q : rs_Mem → Prop) : Prop :=
  (F_Mo_begin N v0 (3 : Int32) σ (fun σ51 => (F_Mo_add N v0 x2 σ51 (fun σ52 => (F_Mo_add N v0 x3 σ52 (fun σ53 => (F_Mo_send N v0 x1 σ53 (fun x55 σ54 => ((x55 = 0 → (Q σ54)) ∧ (¬ (x55 = 0) → (F_Mo_close N v0 x1 σ54 (fun σ56 => (Q σ56)))))))))))))
abbrev y_Mo_end : MethodName := ({ cls := "RouteSpeakerModel", name := "end", desc := "(III)V" } : Jvm.MethodName)
theorem rc_Mo_end : rs_Cal y_Mo_end prog_12_method_15_code 4 none 3 := ⟨tw_1174, tw_11, by decide, by decide, by decide +kernel⟩
set_option maxRecDepth 20000 in
theorem J_Mo_end (l : Launch) {G : rs_G} {Bm : Nat} {S : rs_Shp} {v0 : Nat} {x1 : Int32} {x2 : Int32} {x3 : Int32} {σ : rs_Mem} {Q : rs_Mem → Prop} (h_v0 : rs_Ok S 11 v0) (hF : F_Mo_end S.2.2 v0 x1 x2 x3 σ Q) :
    Met l y_Mo_end (rs_ws y_Mo_end prog_12_method_15_code 4 none) { frames := 2, cells := 0, slots := 0, locals := 44 } (rs_P G Bm S σ [.ref (Bm + v0), .int x1, .int x2, .int x3]) (rs_Qv G Bm S Q) 0 0 (rs_A Bm) := by
  refine rs_met (own := "RouteSpeakerModel") (by decide) rfl (Nat.le_of_ble_eq_true rfl) (fun p e s m below meth c ls C hl hH hT hS => ?_)
  replace hl : lv_has ls 4 [(0, .ref (Bm + v0)), (1, .int x1), (2, .int x2), (3, .int x3)] := hl
  have hx := C.1
  have hb := C.2.1
  unfold F_Mo_end at hF
  refine lv_aload_n hx hb d_Mo_end_0 rfl (lv_at hl 0 rfl) ?_
  refine lv_iconst hx hb d_Mo_end_1 ki_3 ?_
  refine rs_cv (rs_runV C hH hT hl (J_Mo_begin l h_v0 hF) rc_Mo_begin tw_1116 tw_1118 ts_52 h_v0 ⟨rfl, by decide, by decide⟩ rfl ⟨⟨rfl, rfl⟩, by decide, by decide, by decide⟩ (Nat.le_of_ble_eq_true rfl) rfl d_Mo_end_2) hS (fun σ51 H locs hH hT hS hF => ?_)
  refine lv_aload_n hx hb d_Mo_end_5 rfl (lv_at hl 0 rfl) ?_
  refine lv_iload_n hx hb d_Mo_end_6 rfl (lv_at hl 2 rfl) ?_
  refine rs_cv (rs_runV C hH hT hl (J_Mo_add l h_v0 hF) rc_Mo_add tw_1120 tw_1122 ts_53 h_v0 ⟨rfl, by decide, by decide⟩ rfl ⟨⟨rfl, rfl⟩, by decide, by decide, by decide⟩ (Nat.le_of_ble_eq_true rfl) rfl d_Mo_end_7) hS (fun σ52 H locs hH hT hS hF => ?_)
  refine lv_aload_n hx hb d_Mo_end_10 rfl (lv_at hl 0 rfl) ?_
  refine lv_iload_n hx hb d_Mo_end_11 rfl (lv_at hl 3 rfl) ?_
  refine rs_cv (rs_runV C hH hT hl (J_Mo_add l h_v0 hF) rc_Mo_add tw_1120 tw_1122 ts_53 h_v0 ⟨rfl, by decide, by decide⟩ rfl ⟨⟨rfl, rfl⟩, by decide, by decide, by decide⟩ (Nat.le_of_ble_eq_true rfl) rfl d_Mo_end_12) hS (fun σ53 H locs hH hT hS hF => ?_)
  refine lv_aload_n hx hb d_Mo_end_15 rfl (lv_at hl 0 rfl) ?_
  refine lv_iload_n hx hb d_Mo_end_16 rfl (lv_at hl 1 rfl) ?_
  refine rs_ci (rs_runV C hH hT hl (J_Mo_send l h_v0 hF) rc_Mo_send tw_1124 tw_1126 ts_54 h_v0 ⟨rfl, by decide, by decide⟩ rfl ⟨⟨rfl, rfl⟩, by decide, by decide, by decide⟩ (Nat.le_of_ble_eq_true rfl) rfl d_Mo_end_17) hS (fun x55 σ54 H locs hH hT hS hF => ?_)
  refine lv_if_eq hx hb d_Mo_end_20 (tgt := 28) rfl (fun hc => ?_) (fun hc => ?_)
  · replace hF := hF.1 hc
    exact rs_vret C hH hT hS hF d_Mo_end_28
  · replace hF := hF.2 hc
    refine lv_aload_n hx hb d_Mo_end_23 rfl (lv_at hl 0 rfl) ?_
    refine lv_iload_n hx hb d_Mo_end_24 rfl (lv_at hl 1 rfl) ?_
    refine rs_cv (rs_runV C hH hT hl (J_Mo_close l h_v0 hF) rc_Mo_close tw_1128 tw_1130 ts_55 h_v0 ⟨rfl, by decide, by decide⟩ rfl ⟨⟨rfl, rfl⟩, by decide, by decide, by decide⟩ (Nat.le_of_ble_eq_true rfl) rfl d_Mo_end_25) hS (fun σ56 H locs hH hT hS hF => ?_)
    exact rs_vret C hH hT hS hF d_Mo_end_28
/-! RouteSpeakerModel.keepAlive(I)V -/
theorem d_Mo_keepAlive_0 : decode prog_12_method_16_code 0 = .ok (.aload_n 0, 1) := by decide +kernel
theorem d_Mo_keepAlive_1 : decode prog_12_method_16_code 1 = .ok (.iconst 4, 1) := by decide +kernel
theorem d_Mo_keepAlive_2 : decode prog_12_method_16_code 2 = .ok (.invokevirtual 148, 3) := by decide +kernel
theorem d_Mo_keepAlive_5 : decode prog_12_method_16_code 5 = .ok (.aload_n 0, 1) := by decide +kernel
theorem d_Mo_keepAlive_6 : decode prog_12_method_16_code 6 = .ok (.iload_n 1, 1) := by decide +kernel
theorem d_Mo_keepAlive_7 : decode prog_12_method_16_code 7 = .ok (.invokevirtual 154, 3) := by decide +kernel
theorem d_Mo_keepAlive_10 : decode prog_12_method_16_code 10 = .ok (.pop, 1) := by decide +kernel
theorem d_Mo_keepAlive_11 : decode prog_12_method_16_code 11 = .ok (.return_, 1) := by decide +kernel
def F_Mo_keepAlive (N : Nat → Nat) (v0 : Nat) (x1 : Int32) (σ : rs_Mem) (Q : rs_Mem → Prop) : Prop :=
  (F_Mo_begin N v0 (4 : Int32) σ (fun σ51 => (F_Mo_send N v0 x1 σ51 (fun x53 σ52 => (Q σ52)))))
abbrev y_Mo_keepAlive : MethodName := ({ cls := "RouteSpeakerModel", name := "keepAlive", desc := "(I)V" } : Jvm.MethodName)
theorem rc_Mo_keepAlive : rs_Cal y_Mo_keepAlive prog_12_method_16_code 2 none 1 := ⟨tw_1195, tw_11, by decide, by decide, by decide +kernel⟩
set_option maxRecDepth 20000 in
theorem J_Mo_keepAlive (l : Launch) {G : rs_G} {Bm : Nat} {S : rs_Shp} {v0 : Nat} {x1 : Int32} {σ : rs_Mem} {Q : rs_Mem → Prop} (h_v0 : rs_Ok S 11 v0) (hF : F_Mo_keepAlive S.2.2 v0 x1 σ Q) :
    Met l y_Mo_keepAlive (rs_ws y_Mo_keepAlive prog_12_method_16_code 2 none) { frames := 2, cells := 0, slots := 0, locals := 44 } (rs_P G Bm S σ [.ref (Bm + v0), .int x1]) (rs_Qv G Bm S Q) 0 0 (rs_A Bm) := by
  refine rs_met (own := "RouteSpeakerModel") (by decide) rfl (Nat.le_of_ble_eq_true rfl) (fun p e s m below meth c ls C hl hH hT hS => ?_)
  replace hl : lv_has ls 2 [(0, .ref (Bm + v0)), (1, .int x1)] := hl
  have hx := C.1
  have hb := C.2.1
  unfold F_Mo_keepAlive at hF
  refine lv_aload_n hx hb d_Mo_keepAlive_0 rfl (lv_at hl 0 rfl) ?_
  refine lv_iconst hx hb d_Mo_keepAlive_1 ki_4 ?_
  refine rs_cv (rs_runV C hH hT hl (J_Mo_begin l h_v0 hF) rc_Mo_begin tw_1116 tw_1118 ts_52 h_v0 ⟨rfl, by decide, by decide⟩ rfl ⟨⟨rfl, rfl⟩, by decide, by decide, by decide⟩ (Nat.le_of_ble_eq_true rfl) rfl d_Mo_keepAlive_2) hS (fun σ51 H locs hH hT hS hF => ?_)
  refine lv_aload_n hx hb d_Mo_keepAlive_5 rfl (lv_at hl 0 rfl) ?_
  refine lv_iload_n hx hb d_Mo_keepAlive_6 rfl (lv_at hl 1 rfl) ?_
  refine rs_ci (rs_runV C hH hT hl (J_Mo_send l h_v0 hF) rc_Mo_send tw_1124 tw_1126 ts_54 h_v0 ⟨rfl, by decide, by decide⟩ rfl ⟨⟨rfl, rfl⟩, by decide, by decide, by decide⟩ (Nat.le_of_ble_eq_true rfl) rfl d_Mo_keepAlive_7) hS (fun x53 σ52 H locs hH hT hS hF => ?_)
  refine lv_pop hx hb d_Mo_keepAlive_10 rfl ?_
  exact rs_vret C hH hT hS hF d_Mo_keepAlive_11
/-! RouteSpeakerModel.isBarred(I)Z -/
theorem d_Mo_isBarred_0 : decode prog_12_method_45_code 0 = .ok (.aload_n 0, 1) := by decide +kernel
theorem d_Mo_isBarred_1 : decode prog_12_method_45_code 1 = .ok (.getfield 95, 3) := by decide +kernel
theorem d_Mo_isBarred_4 : decode prog_12_method_45_code 4 = .ok (.iload_n 1, 1) := by decide +kernel
theorem d_Mo_isBarred_5 : decode prog_12_method_45_code 5 = .ok (.iaload, 1) := by decide +kernel
theorem d_Mo_isBarred_6 : decode prog_12_method_45_code 6 = .ok (.bipush (7), 2) := by decide +kernel
theorem d_Mo_isBarred_8 : decode prog_12_method_45_code 8 = .ok (.if_icmp .ne (7), 3) := by decide +kernel
theorem d_Mo_isBarred_11 : decode prog_12_method_45_code 11 = .ok (.iconst 1, 1) := by decide +kernel
theorem d_Mo_isBarred_12 : decode prog_12_method_45_code 12 = .ok (.goto (4), 3) := by decide +kernel
theorem d_Mo_isBarred_15 : decode prog_12_method_45_code 15 = .ok (.iconst 0, 1) := by decide +kernel
theorem d_Mo_isBarred_16 : decode prog_12_method_45_code 16 = .ok (.istore_n 2, 1) := by decide +kernel
theorem d_Mo_isBarred_17 : decode prog_12_method_45_code 17 = .ok (.iconst 0, 1) := by decide +kernel
theorem d_Mo_isBarred_18 : decode prog_12_method_45_code 18 = .ok (.istore_n 3, 1) := by decide +kernel
theorem d_Mo_isBarred_19 : decode prog_12_method_45_code 19 = .ok (.iload_n 3, 1) := by decide +kernel
theorem d_Mo_isBarred_20 : decode prog_12_method_45_code 20 = .ok (.aload_n 0, 1) := by decide +kernel
theorem d_Mo_isBarred_21 : decode prog_12_method_45_code 21 = .ok (.getfield 80, 3) := by decide +kernel
theorem d_Mo_isBarred_24 : decode prog_12_method_45_code 24 = .ok (.iload_n 1, 1) := by decide +kernel
theorem d_Mo_isBarred_25 : decode prog_12_method_45_code 25 = .ok (.iaload, 1) := by decide +kernel
theorem d_Mo_isBarred_26 : decode prog_12_method_45_code 26 = .ok (.if_icmp .ge (35), 3) := by decide +kernel
theorem d_Mo_isBarred_29 : decode prog_12_method_45_code 29 = .ok (.iload_n 2, 1) := by decide +kernel
theorem d_Mo_isBarred_30 : decode prog_12_method_45_code 30 = .ok (.ifCond .ne (19), 3) := by decide +kernel
theorem d_Mo_isBarred_33 : decode prog_12_method_45_code 33 = .ok (.aload_n 0, 1) := by decide +kernel
theorem d_Mo_isBarred_34 : decode prog_12_method_45_code 34 = .ok (.getfield 83, 3) := by decide +kernel
theorem d_Mo_isBarred_37 : decode prog_12_method_45_code 37 = .ok (.bipush (8), 2) := by decide +kernel
theorem d_Mo_isBarred_39 : decode prog_12_method_45_code 39 = .ok (.iload_n 1, 1) := by decide +kernel
theorem d_Mo_isBarred_40 : decode prog_12_method_45_code 40 = .ok (.imul, 1) := by decide +kernel
theorem d_Mo_isBarred_41 : decode prog_12_method_45_code 41 = .ok (.iload_n 3, 1) := by decide +kernel
theorem d_Mo_isBarred_42 : decode prog_12_method_45_code 42 = .ok (.iadd, 1) := by decide +kernel
theorem d_Mo_isBarred_43 : decode prog_12_method_45_code 43 = .ok (.iaload, 1) := by decide +kernel
theorem d_Mo_isBarred_44 : decode prog_12_method_45_code 44 = .ok (.bipush (100), 2) := by decide +kernel
theorem d_Mo_isBarred_46 : decode prog_12_method_45_code 46 = .ok (.if_icmp .ne (7), 3) := by decide +kernel
theorem d_Mo_isBarred_49 : decode prog_12_method_45_code 49 = .ok (.iconst 1, 1) := by decide +kernel
theorem d_Mo_isBarred_50 : decode prog_12_method_45_code 50 = .ok (.goto (4), 3) := by decide +kernel
theorem d_Mo_isBarred_53 : decode prog_12_method_45_code 53 = .ok (.iconst 0, 1) := by decide +kernel
theorem d_Mo_isBarred_54 : decode prog_12_method_45_code 54 = .ok (.istore_n 2, 1) := by decide +kernel
theorem d_Mo_isBarred_55 : decode prog_12_method_45_code 55 = .ok (.iinc 3 (1), 3) := by decide +kernel
theorem d_Mo_isBarred_58 : decode prog_12_method_45_code 58 = .ok (.goto (-39), 3) := by decide +kernel
theorem d_Mo_isBarred_61 : decode prog_12_method_45_code 61 = .ok (.iconst 0, 1) := by decide +kernel
theorem d_Mo_isBarred_62 : decode prog_12_method_45_code 62 = .ok (.istore_n 3, 1) := by decide +kernel
theorem d_Mo_isBarred_63 : decode prog_12_method_45_code 63 = .ok (.iload_n 3, 1) := by decide +kernel
theorem d_Mo_isBarred_64 : decode prog_12_method_45_code 64 = .ok (.aload_n 0, 1) := by decide +kernel
theorem d_Mo_isBarred_65 : decode prog_12_method_45_code 65 = .ok (.getfield 98, 3) := by decide +kernel
theorem d_Mo_isBarred_68 : decode prog_12_method_45_code 68 = .ok (.iload_n 1, 1) := by decide +kernel
theorem d_Mo_isBarred_69 : decode prog_12_method_45_code 69 = .ok (.iaload, 1) := by decide +kernel
theorem d_Mo_isBarred_70 : decode prog_12_method_45_code 70 = .ok (.if_icmp .ge (35), 3) := by decide +kernel
theorem d_Mo_isBarred_73 : decode prog_12_method_45_code 73 = .ok (.iload_n 2, 1) := by decide +kernel
theorem d_Mo_isBarred_74 : decode prog_12_method_45_code 74 = .ok (.ifCond .ne (19), 3) := by decide +kernel
theorem d_Mo_isBarred_77 : decode prog_12_method_45_code 77 = .ok (.aload_n 0, 1) := by decide +kernel
theorem d_Mo_isBarred_78 : decode prog_12_method_45_code 78 = .ok (.getfield 101, 3) := by decide +kernel
theorem d_Mo_isBarred_81 : decode prog_12_method_45_code 81 = .ok (.bipush (6), 2) := by decide +kernel
theorem d_Mo_isBarred_83 : decode prog_12_method_45_code 83 = .ok (.iload_n 1, 1) := by decide +kernel
theorem d_Mo_isBarred_84 : decode prog_12_method_45_code 84 = .ok (.imul, 1) := by decide +kernel
theorem d_Mo_isBarred_85 : decode prog_12_method_45_code 85 = .ok (.iload_n 3, 1) := by decide +kernel
theorem d_Mo_isBarred_86 : decode prog_12_method_45_code 86 = .ok (.iadd, 1) := by decide +kernel
theorem d_Mo_isBarred_87 : decode prog_12_method_45_code 87 = .ok (.iaload, 1) := by decide +kernel
theorem d_Mo_isBarred_88 : decode prog_12_method_45_code 88 = .ok (.bipush (7), 2) := by decide +kernel
theorem d_Mo_isBarred_90 : decode prog_12_method_45_code 90 = .ok (.if_icmp .ne (7), 3) := by decide +kernel
theorem d_Mo_isBarred_93 : decode prog_12_method_45_code 93 = .ok (.iconst 1, 1) := by decide +kernel
theorem d_Mo_isBarred_94 : decode prog_12_method_45_code 94 = .ok (.goto (4), 3) := by decide +kernel
theorem d_Mo_isBarred_97 : decode prog_12_method_45_code 97 = .ok (.iconst 0, 1) := by decide +kernel
theorem d_Mo_isBarred_98 : decode prog_12_method_45_code 98 = .ok (.istore_n 2, 1) := by decide +kernel
theorem d_Mo_isBarred_99 : decode prog_12_method_45_code 99 = .ok (.iinc 3 (1), 3) := by decide +kernel
theorem d_Mo_isBarred_102 : decode prog_12_method_45_code 102 = .ok (.goto (-39), 3) := by decide +kernel
theorem d_Mo_isBarred_105 : decode prog_12_method_45_code 105 = .ok (.iload_n 2, 1) := by decide +kernel
theorem d_Mo_isBarred_106 : decode prog_12_method_45_code 106 = .ok (.ireturn, 1) := by decide +kernel
def B_Mo_isBarred_49 (N : Nat → Nat) (K19 : Nat → Int32 → Int32 → Int32 → rs_Mem → Prop) (Q : Int32 → rs_Mem → Prop) (v0 : Nat) (x1 : Int32) (x3 : Int32) (σ : rs_Mem) : Prop :=
  (∀ x51 : Int32, x51 = x3 + (1 : Int32) → (K19 v0 x1 (1 : Int32) x51 σ))
def B_Mo_isBarred_93 (N : Nat → Nat) (K63 : Nat → Int32 → Int32 → Int32 → rs_Mem → Prop) (Q : Int32 → rs_Mem → Prop) (v0 : Nat) (x1 : Int32) (x3 : Int32) (σ : rs_Mem) : Prop :=
  (∀ x51 : Int32, x51 = x3 + (1 : Int32) → (K63 v0 x1 (1 : Int32) x51 σ))
def G_Mo_isBarred_63 (N : Nat → Nat) (Q : Int32 → rs_Mem → Prop) (K63 : Nat → Int32 → Int32 → Int32 → rs_Mem → Prop) (v0 : Nat) (x1 : Int32) (x2 : Int32) (x3 : Int32) (σ : rs_Mem) : Prop :=
  (vp_in x1 (N (rs_R σ v0 32)) ∧ (((rs_I σ (rs_R σ v0 32) x1.toNatClampNeg) ≤ x3 → ((x2 &&& 1 = x2) ∧ Q x2 σ)) ∧ (¬ ((rs_I σ (rs_R σ v0 32) x1.toNatClampNeg) ≤ x3) → ((¬ (x2 = 0) → (B_Mo_isBarred_93 N K63 Q v0 x1 x3 σ)) ∧ (x2 = 0 → (vp_in (((6 : Int32) * x1) + x3) (N (rs_R σ v0 33)) ∧ ((¬ ((rs_I σ (rs_R σ v0 33) (((6 : Int32) * x1) + x3).toNatClampNeg) = (7 : Int32)) → (∀ x55 : Int32, x55 = x3 + (1 : Int32) → (K63 v0 x1 (0 : Int32) x55 σ))) ∧ ((rs_I σ (rs_R σ v0 33) (((6 : Int32) * x1) + x3).toNatClampNeg) = (7 : Int32) → (B_Mo_isBarred_93 N K63 Q v0 x1 x3 σ)))))))))
noncomputable def L_Mo_isBarred_63 (N : Nat → Nat) (Q : Int32 → rs_Mem → Prop) (n : Nat) : Nat → Int32 → Int32 → Int32 → rs_Mem → Prop := Nat.rec (motive := fun _ => Nat → Int32 → Int32 → Int32 → rs_Mem → Prop) (fun _ _ _ _ _ => False) (fun _ K => G_Mo_isBarred_63 N Q K) n
def G_Mo_isBarred_19 (N : Nat → Nat) (Q : Int32 → rs_Mem → Prop) (K19 : Nat → Int32 → Int32 → Int32 → rs_Mem → Prop) (v0 : Nat) (x1 : Int32) (x2 : Int32) (x3 : Int32) (σ : rs_Mem) : Prop :=
  (vp_in x1 (N (rs_R σ v0 26)) ∧ (((rs_I σ (rs_R σ v0 26) x1.toNatClampNeg) ≤ x3 → (∃ n : Nat, L_Mo_isBarred_63 N Q n v0 x1 x2 (0 : Int32) σ)) ∧ (¬ ((rs_I σ (rs_R σ v0 26) x1.toNatClampNeg) ≤ x3) → ((¬ (x2 = 0) → (B_Mo_isBarred_49 N K19 Q v0 x1 x3 σ)) ∧ (x2 = 0 → (vp_in (((8 : Int32) * x1) + x3) (N (rs_R σ v0 27)) ∧ ((¬ ((rs_I σ (rs_R σ v0 27) (((8 : Int32) * x1) + x3).toNatClampNeg) = (100 : Int32)) → (∀ x55 : Int32, x55 = x3 + (1 : Int32) → (K19 v0 x1 (0 : Int32) x55 σ))) ∧ ((rs_I σ (rs_R σ v0 27) (((8 : Int32) * x1) + x3).toNatClampNeg) = (100 : Int32) → (B_Mo_isBarred_49 N K19 Q v0 x1 x3 σ)))))))))
noncomputable def L_Mo_isBarred_19 (N : Nat → Nat) (Q : Int32 → rs_Mem → Prop) (n : Nat) : Nat → Int32 → Int32 → Int32 → rs_Mem → Prop := Nat.rec (motive := fun _ => Nat → Int32 → Int32 → Int32 → rs_Mem → Prop) (fun _ _ _ _ _ => False) (fun _ K => G_Mo_isBarred_19 N Q K) n
def F_Mo_isBarred (N : Nat → Nat) (v0 : Nat) (x1 : Int32) (σ : rs_Mem) (Q : Int32 → rs_Mem → Prop) : Prop :=
  (vp_in x1 (N (rs_R σ v0 31)) ∧ ((¬ ((rs_I σ (rs_R σ v0 31) x1.toNatClampNeg) = (7 : Int32)) → (∃ n : Nat, L_Mo_isBarred_19 N Q n v0 x1 (0 : Int32) (0 : Int32) σ)) ∧ ((rs_I σ (rs_R σ v0 31) x1.toNatClampNeg) = (7 : Int32) → (∃ n : Nat, L_Mo_isBarred_19 N Q n v0 x1 (1 : Int32) (0 : Int32) σ))))
set_option maxRecDepth 20000 in
theorem JB_Mo_isBarred_49 {p : Program} {l : Launch} {e : Env} {s : State} {m : MethodId} {args : Array Value} {below : List Frame} {meth : Method} {c : Code} {G : rs_G} {Bm : Nat} {S : rs_Shp} {K19 : Nat → Int32 → Int32 → Int32 → rs_Mem → Prop} {Q : Int32 → rs_Mem → Prop} (C : rs_C "RouteSpeakerModel" prog_12_method_45_code 4 (some .boolean) G p s m meth c args) (hK19 : ∀ (v0 : Nat) (x1 : Int32) (x2 : Int32) (x3 : Int32) (σ : rs_Mem) (H : Heap) (locs : List Loc) (ls : Array Slot), rs_Ok S 11 v0 → rs_H G Bm S σ H → rs_T S σ → va_S (rs_A Bm) s.heap H locs → lv_has ls 4 [(0, .ref (Bm + v0)), (1, .int x1), (2, .int x2), (3, .int x3)] → K19 v0 x1 x2 x3 σ → W p l e { frames := 0, cells := 0, slots := 0, locals := 0 } s m args below meth c H locs 0 0 (MQ below (rs_Qi G Bm S Q) args s 0 0 (rs_A Bm)) (F0 m 19 ls [])) (v0 : Nat) (x1 : Int32) (x3 : Int32) (σ : rs_Mem) (H : Heap) (locs : List Loc) (ls : Array Slot) (h_v0 : rs_Ok S 11 v0) (hH : rs_H G Bm S σ H) (hT : rs_T S σ) (hS : va_S (rs_A Bm) s.heap H locs) (hl : lv_has ls 4 [(0, .ref (Bm + v0)), (1, .int x1), (3, .int x3)]) (hF : B_Mo_isBarred_49 S.2.2 K19 Q v0 x1 x3 σ) :
    W p l e { frames := 0, cells := 0, slots := 0, locals := 0 } s m args below meth c H locs 0 0 (MQ below (rs_Qi G Bm S Q) args s 0 0 (rs_A Bm)) (F0 m 49 ls []) := by
  have hx := C.1
  have hb := C.2.1
  unfold B_Mo_isBarred_49 at hF
  refine lv_iconst hx hb d_Mo_isBarred_49 ki_1 ?_
  refine lv_goto hx hb d_Mo_isBarred_50 (tgt := 54) rfl ?_
  refine lv_istore_n hx hb d_Mo_isBarred_54 rfl hl (by decide) (lv' := [(2, .int (1 : Int32)), (0, .ref (Bm + v0)), (1, .int x1), (3, .int x3)]) rfl (fun ls hl => ?_)
  obtain ⟨x51, ex51⟩ : ∃ z : Int32, z = x3 + (1 : Int32) := ⟨_, rfl⟩
  replace hF := hF x51 ex51
  refine lv_iinc hx hb d_Mo_isBarred_55 hl (k := 3) rfl (v := x51) (by rw [ki_1, ex51]) (by decide) (lv' := [(3, .int x51), (2, .int (1 : Int32)), (0, .ref (Bm + v0)), (1, .int x1)]) rfl (fun ls hl => ?_)
  refine lv_goto hx hb d_Mo_isBarred_58 (tgt := 19) rfl ?_
  exact hK19 v0 x1 (1 : Int32) x51 σ _ _ _ h_v0 hH hT hS (lv_sub hl [2, 3, 1, 0] rfl) hF
set_option maxRecDepth 20000 in
theorem JB_Mo_isBarred_93 {p : Program} {l : Launch} {e : Env} {s : State} {m : MethodId} {args : Array Value} {below : List Frame} {meth : Method} {c : Code} {G : rs_G} {Bm : Nat} {S : rs_Shp} {K63 : Nat → Int32 → Int32 → Int32 → rs_Mem → Prop} {Q : Int32 → rs_Mem → Prop} (C : rs_C "RouteSpeakerModel" prog_12_method_45_code 4 (some .boolean) G p s m meth c args) (hK63 : ∀ (v0 : Nat) (x1 : Int32) (x2 : Int32) (x3 : Int32) (σ : rs_Mem) (H : Heap) (locs : List Loc) (ls : Array Slot), rs_Ok S 11 v0 → rs_H G Bm S σ H → rs_T S σ → va_S (rs_A Bm) s.heap H locs → lv_has ls 4 [(0, .ref (Bm + v0)), (1, .int x1), (2, .int x2), (3, .int x3)] → K63 v0 x1 x2 x3 σ → W p l e { frames := 0, cells := 0, slots := 0, locals := 0 } s m args below meth c H locs 0 0 (MQ below (rs_Qi G Bm S Q) args s 0 0 (rs_A Bm)) (F0 m 63 ls [])) (v0 : Nat) (x1 : Int32) (x3 : Int32) (σ : rs_Mem) (H : Heap) (locs : List Loc) (ls : Array Slot) (h_v0 : rs_Ok S 11 v0) (hH : rs_H G Bm S σ H) (hT : rs_T S σ) (hS : va_S (rs_A Bm) s.heap H locs) (hl : lv_has ls 4 [(0, .ref (Bm + v0)), (1, .int x1), (3, .int x3)]) (hF : B_Mo_isBarred_93 S.2.2 K63 Q v0 x1 x3 σ) :
    W p l e { frames := 0, cells := 0, slots := 0, locals := 0 } s m args below meth c H locs 0 0 (MQ below (rs_Qi G Bm S Q) args s 0 0 (rs_A Bm)) (F0 m 93 ls []) := by
  have hx := C.1
  have hb := C.2.1
  unfold B_Mo_isBarred_93 at hF
  refine lv_iconst hx hb d_Mo_isBarred_93 ki_1 ?_
  refine lv_goto hx hb d_Mo_isBarred_94 (tgt := 98) rfl ?_
  refine lv_istore_n hx hb d_Mo_isBarred_98 rfl hl (by decide) (lv' := [(2, .int (1 : Int32)), (0, .ref (Bm + v0)), (1, .int x1), (3, .int x3)]) rfl (fun ls hl => ?_)
  obtain ⟨x51, ex51⟩ : ∃ z : Int32, z = x3 + (1 : Int32) := ⟨_, rfl⟩
  replace hF := hF x51 ex51
  refine lv_iinc hx hb d_Mo_isBarred_99 hl (k := 3) rfl (v := x51) (by rw [ki_1, ex51]) (by decide) (lv' := [(3, .int x51), (2, .int (1 : Int32)), (0, .ref (Bm + v0)), (1, .int x1)]) rfl (fun ls hl => ?_)
  refine lv_goto hx hb d_Mo_isBarred_102 (tgt := 63) rfl ?_
  exact hK63 v0 x1 (1 : Int32) x51 σ _ _ _ h_v0 hH hT hS (lv_sub hl [2, 3, 1, 0] rfl) hF
set_option maxRecDepth 20000 in
theorem JL_Mo_isBarred_63 {p : Program} {l : Launch} {e : Env} {s : State} {m : MethodId} {args : Array Value} {below : List Frame} {meth : Method} {c : Code} {G : rs_G} {Bm : Nat} {S : rs_Shp} {Q : Int32 → rs_Mem → Prop} (C : rs_C "RouteSpeakerModel" prog_12_method_45_code 4 (some .boolean) G p s m meth c args) : ∀ n : Nat, ∀ (v0 : Nat) (x1 : Int32) (x2 : Int32) (x3 : Int32) (σ : rs_Mem) (H : Heap) (locs : List Loc) (ls : Array Slot), rs_Ok S 11 v0 → rs_H G Bm S σ H → rs_T S σ → va_S (rs_A Bm) s.heap H locs → lv_has ls 4 [(0, .ref (Bm + v0)), (1, .int x1), (2, .int x2), (3, .int x3)] → (L_Mo_isBarred_63 S.2.2 Q n) v0 x1 x2 x3 σ → W p l e { frames := 0, cells := 0, slots := 0, locals := 0 } s m args below meth c H locs 0 0 (MQ below (rs_Qi G Bm S Q) args s 0 0 (rs_A Bm)) (F0 m 63 ls []) := by
  have hx := C.1
  have hb := C.2.1
  intro n
  induction n with
  | zero => intros; rename_i hF; exact hF.elim
  | succ n hK63 =>
    intro v0 x1 x2 x3 σ H locs ls h_v0 hH hT hS hl hF
    replace hF : G_Mo_isBarred_63 S.2.2 Q (L_Mo_isBarred_63 S.2.2 Q n) v0 x1 x2 x3 σ := hF
    unfold G_Mo_isBarred_63 at hF
    refine lv_iload_n hx hb d_Mo_isBarred_63 rfl (lv_at hl 3 rfl) ?_
    refine lv_aload_n hx hb d_Mo_isBarred_64 rfl (lv_at hl 0 rfl) ?_
    refine rs_getR C hH hT h_v0 fk_11_32 tw_931 d_Mo_isBarred_65 (fun h51 => ?_)
    refine lv_iload_n hx hb d_Mo_isBarred_68 rfl (lv_at hl 1 rfl) ?_
    obtain ⟨g52, hF⟩ := hF
    refine rs_iald C hH h51 g52 d_Mo_isBarred_69 ?_
    refine lv_icmp_ge hx hb d_Mo_isBarred_70 (tgt := 105) rfl (fun hc => ?_) (fun hc => ?_)
    · replace hF := hF.1 hc
      refine lv_iload_n hx hb d_Mo_isBarred_105 rfl (lv_at hl 2 rfl) ?_
      exact rs_zret C hH hT hS hF.1 hF.2 d_Mo_isBarred_106
    · replace hF := hF.2 hc
      refine lv_iload_n hx hb d_Mo_isBarred_73 rfl (lv_at hl 2 rfl) ?_
      refine lv_if_ne hx hb d_Mo_isBarred_74 (tgt := 93) rfl (fun hc => ?_) (fun hc => ?_)
      · replace hF := hF.1 hc
        exact JB_Mo_isBarred_93 C hK63 v0 x1 x3 σ _ _ _ h_v0 hH hT hS (lv_sub hl [0, 1, 3] rfl) hF
      · replace hF := hF.2 hc
        refine lv_aload_n hx hb d_Mo_isBarred_77 rfl (lv_at hl 0 rfl) ?_
        refine rs_getR C hH hT h_v0 fk_11_33 tw_932 d_Mo_isBarred_78 (fun h53 => ?_)
        refine lv_bipush hx hb d_Mo_isBarred_81 kb_6 ?_
        refine lv_iload_n hx hb d_Mo_isBarred_83 rfl (lv_at hl 1 rfl) ?_
        refine lv_imul hx hb d_Mo_isBarred_84 ?_
        refine lv_iload_n hx hb d_Mo_isBarred_85 rfl (lv_at hl 3 rfl) ?_
        refine lv_iadd hx hb d_Mo_isBarred_86 ?_
        obtain ⟨g54, hF⟩ := hF
        refine rs_iald C hH h53 g54 d_Mo_isBarred_87 ?_
        refine lv_bipush hx hb d_Mo_isBarred_88 kb_7 ?_
        refine lv_icmp_ne hx hb d_Mo_isBarred_90 (tgt := 97) rfl (fun hc => ?_) (fun hc => ?_)
        · replace hF := hF.1 hc
          refine lv_iconst hx hb d_Mo_isBarred_97 ki_0 ?_
          refine lv_istore_n hx hb d_Mo_isBarred_98 rfl hl (by decide) (lv' := [(2, .int (0 : Int32)), (0, .ref (Bm + v0)), (1, .int x1), (3, .int x3)]) rfl (fun ls hl => ?_)
          obtain ⟨x55, ex55⟩ : ∃ z : Int32, z = x3 + (1 : Int32) := ⟨_, rfl⟩
          replace hF := hF x55 ex55
          refine lv_iinc hx hb d_Mo_isBarred_99 hl (k := 3) rfl (v := x55) (by rw [ki_1, ex55]) (by decide) (lv' := [(3, .int x55), (2, .int (0 : Int32)), (0, .ref (Bm + v0)), (1, .int x1)]) rfl (fun ls hl => ?_)
          refine lv_goto hx hb d_Mo_isBarred_102 (tgt := 63) rfl ?_
          exact hK63 v0 x1 (0 : Int32) x55 σ _ _ _ h_v0 hH hT hS (lv_sub hl [2, 3, 1, 0] rfl) hF
        · replace hF := hF.2 hc
          exact JB_Mo_isBarred_93 C hK63 v0 x1 x3 σ _ _ _ h_v0 hH hT hS (lv_sub hl [0, 1, 3] rfl) hF
set_option maxRecDepth 20000 in
theorem JL_Mo_isBarred_19 {p : Program} {l : Launch} {e : Env} {s : State} {m : MethodId} {args : Array Value} {below : List Frame} {meth : Method} {c : Code} {G : rs_G} {Bm : Nat} {S : rs_Shp} {Q : Int32 → rs_Mem → Prop} (C : rs_C "RouteSpeakerModel" prog_12_method_45_code 4 (some .boolean) G p s m meth c args) : ∀ n : Nat, ∀ (v0 : Nat) (x1 : Int32) (x2 : Int32) (x3 : Int32) (σ : rs_Mem) (H : Heap) (locs : List Loc) (ls : Array Slot), rs_Ok S 11 v0 → rs_H G Bm S σ H → rs_T S σ → va_S (rs_A Bm) s.heap H locs → lv_has ls 4 [(0, .ref (Bm + v0)), (1, .int x1), (2, .int x2), (3, .int x3)] → (L_Mo_isBarred_19 S.2.2 Q n) v0 x1 x2 x3 σ → W p l e { frames := 0, cells := 0, slots := 0, locals := 0 } s m args below meth c H locs 0 0 (MQ below (rs_Qi G Bm S Q) args s 0 0 (rs_A Bm)) (F0 m 19 ls []) := by
  have hx := C.1
  have hb := C.2.1
  intro n
  induction n with
  | zero => intros; rename_i hF; exact hF.elim
  | succ n hK19 =>
    intro v0 x1 x2 x3 σ H locs ls h_v0 hH hT hS hl hF
    replace hF : G_Mo_isBarred_19 S.2.2 Q (L_Mo_isBarred_19 S.2.2 Q n) v0 x1 x2 x3 σ := hF
    unfold G_Mo_isBarred_19 at hF
    refine lv_iload_n hx hb d_Mo_isBarred_19 rfl (lv_at hl 3 rfl) ?_
    refine lv_aload_n hx hb d_Mo_isBarred_20 rfl (lv_at hl 0 rfl) ?_
    refine rs_getR C hH hT h_v0 fk_11_26 tw_925 d_Mo_isBarred_21 (fun h51 => ?_)
    refine lv_iload_n hx hb d_Mo_isBarred_24 rfl (lv_at hl 1 rfl) ?_
    obtain ⟨g52, hF⟩ := hF
    refine rs_iald C hH h51 g52 d_Mo_isBarred_25 ?_
    refine lv_icmp_ge hx hb d_Mo_isBarred_26 (tgt := 61) rfl (fun hc => ?_) (fun hc => ?_)
    · replace hF := hF.1 hc
      refine lv_iconst hx hb d_Mo_isBarred_61 ki_0 ?_
      refine lv_istore_n hx hb d_Mo_isBarred_62 rfl hl (by decide) (lv' := [(3, .int (0 : Int32)), (0, .ref (Bm + v0)), (1, .int x1), (2, .int x2)]) rfl (fun ls hl => ?_)
      obtain ⟨n, hF⟩ := hF
      exact JL_Mo_isBarred_63 C n v0 x1 x2 (0 : Int32) σ _ _ _ h_v0 hH hT hS (lv_sub hl [1, 2, 3, 0] rfl) hF
    · replace hF := hF.2 hc
      refine lv_iload_n hx hb d_Mo_isBarred_29 rfl (lv_at hl 2 rfl) ?_
      refine lv_if_ne hx hb d_Mo_isBarred_30 (tgt := 49) rfl (fun hc => ?_) (fun hc => ?_)
      · replace hF := hF.1 hc
        exact JB_Mo_isBarred_49 C hK19 v0 x1 x3 σ _ _ _ h_v0 hH hT hS (lv_sub hl [0, 1, 3] rfl) hF
      · replace hF := hF.2 hc
        refine lv_aload_n hx hb d_Mo_isBarred_33 rfl (lv_at hl 0 rfl) ?_
        refine rs_getR C hH hT h_v0 fk_11_27 tw_926 d_Mo_isBarred_34 (fun h53 => ?_)
        refine lv_bipush hx hb d_Mo_isBarred_37 kb_8 ?_
        refine lv_iload_n hx hb d_Mo_isBarred_39 rfl (lv_at hl 1 rfl) ?_
        refine lv_imul hx hb d_Mo_isBarred_40 ?_
        refine lv_iload_n hx hb d_Mo_isBarred_41 rfl (lv_at hl 3 rfl) ?_
        refine lv_iadd hx hb d_Mo_isBarred_42 ?_
        obtain ⟨g54, hF⟩ := hF
        refine rs_iald C hH h53 g54 d_Mo_isBarred_43 ?_
        refine lv_bipush hx hb d_Mo_isBarred_44 kb_100 ?_
        refine lv_icmp_ne hx hb d_Mo_isBarred_46 (tgt := 53) rfl (fun hc => ?_) (fun hc => ?_)
        · replace hF := hF.1 hc
          refine lv_iconst hx hb d_Mo_isBarred_53 ki_0 ?_
          refine lv_istore_n hx hb d_Mo_isBarred_54 rfl hl (by decide) (lv' := [(2, .int (0 : Int32)), (0, .ref (Bm + v0)), (1, .int x1), (3, .int x3)]) rfl (fun ls hl => ?_)
          obtain ⟨x55, ex55⟩ : ∃ z : Int32, z = x3 + (1 : Int32) := ⟨_, rfl⟩
          replace hF := hF x55 ex55
          refine lv_iinc hx hb d_Mo_isBarred_55 hl (k := 3) rfl (v := x55) (by rw [ki_1, ex55]) (by decide) (lv' := [(3, .int x55), (2, .int (0 : Int32)), (0, .ref (Bm + v0)), (1, .int x1)]) rfl (fun ls hl => ?_)
          refine lv_goto hx hb d_Mo_isBarred_58 (tgt := 19) rfl ?_
          exact hK19 v0 x1 (0 : Int32) x55 σ _ _ _ h_v0 hH hT hS (lv_sub hl [2, 3, 1, 0] rfl) hF
        · replace hF := hF.2 hc
          exact JB_Mo_isBarred_49 C hK19 v0 x1 x3 σ _ _ _ h_v0 hH hT hS (lv_sub hl [0, 1, 3] rfl) hF
abbrev y_Mo_isBarred : MethodName := ({ cls := "RouteSpeakerModel", name := "isBarred", desc := "(I)Z" } : Jvm.MethodName)
theorem rc_Mo_isBarred : rs_Cal y_Mo_isBarred prog_12_method_45_code 4 (some .boolean) 1 := ⟨tw_1056, tw_11, by decide, by decide, by decide +kernel⟩
set_option maxRecDepth 20000 in
theorem J_Mo_isBarred (l : Launch) {G : rs_G} {Bm : Nat} {S : rs_Shp} {v0 : Nat} {x1 : Int32} {σ : rs_Mem} {Q : Int32 → rs_Mem → Prop} (h_v0 : rs_Ok S 11 v0) (hF : F_Mo_isBarred S.2.2 v0 x1 σ Q) :
    Met l y_Mo_isBarred (rs_ws y_Mo_isBarred prog_12_method_45_code 4 (some .boolean)) { frames := 0, cells := 0, slots := 0, locals := 0 } (rs_P G Bm S σ [.ref (Bm + v0), .int x1]) (rs_Qi G Bm S Q) 0 0 (rs_A Bm) := by
  refine rs_met (own := "RouteSpeakerModel") (by decide) rfl (Nat.le_of_ble_eq_true rfl) (fun p e s m below meth c ls C hl hH hT hS => ?_)
  replace hl : lv_has ls 4 [(0, .ref (Bm + v0)), (1, .int x1)] := hl
  have hx := C.1
  have hb := C.2.1
  unfold F_Mo_isBarred at hF
  refine lv_aload_n hx hb d_Mo_isBarred_0 rfl (lv_at hl 0 rfl) ?_
  refine rs_getR C hH hT h_v0 fk_11_31 tw_930 d_Mo_isBarred_1 (fun h51 => ?_)
  refine lv_iload_n hx hb d_Mo_isBarred_4 rfl (lv_at hl 1 rfl) ?_
  obtain ⟨g52, hF⟩ := hF
  refine rs_iald C hH h51 g52 d_Mo_isBarred_5 ?_
  refine lv_bipush hx hb d_Mo_isBarred_6 kb_7 ?_
  refine lv_icmp_ne hx hb d_Mo_isBarred_8 (tgt := 15) rfl (fun hc => ?_) (fun hc => ?_)
  · replace hF := hF.1 hc
    refine lv_iconst hx hb d_Mo_isBarred_15 ki_0 ?_
    refine lv_istore_n hx hb d_Mo_isBarred_16 rfl hl (by decide) (lv' := [(2, .int (0 : Int32)), (0, .ref (Bm + v0)), (1, .int x1)]) rfl (fun ls hl => ?_)
    refine lv_iconst hx hb d_Mo_isBarred_17 ki_0 ?_
    refine lv_istore_n hx hb d_Mo_isBarred_18 rfl hl (by decide) (lv' := [(3, .int (0 : Int32)), (2, .int (0 : Int32)), (0, .ref (Bm + v0)), (1, .int x1)]) rfl (fun ls hl => ?_)
    obtain ⟨n, hF⟩ := hF
    exact JL_Mo_isBarred_19 C n v0 x1 (0 : Int32) (0 : Int32) σ _ _ _ h_v0 hH hT hS (lv_sub hl [2, 3, 1, 0] rfl) hF
  · replace hF := hF.2 hc
    refine lv_iconst hx hb d_Mo_isBarred_11 ki_1 ?_
    refine lv_goto hx hb d_Mo_isBarred_12 (tgt := 16) rfl ?_
    refine lv_istore_n hx hb d_Mo_isBarred_16 rfl hl (by decide) (lv' := [(2, .int (1 : Int32)), (0, .ref (Bm + v0)), (1, .int x1)]) rfl (fun ls hl => ?_)
    refine lv_iconst hx hb d_Mo_isBarred_17 ki_0 ?_
    refine lv_istore_n hx hb d_Mo_isBarred_18 rfl hl (by decide) (lv' := [(3, .int (0 : Int32)), (2, .int (1 : Int32)), (0, .ref (Bm + v0)), (1, .int x1)]) rfl (fun ls hl => ?_)
    obtain ⟨n, hF⟩ := hF
    exact JL_Mo_isBarred_19 C n v0 x1 (1 : Int32) (0 : Int32) σ _ _ _ h_v0 hH hT hS (lv_sub hl [2, 3, 1, 0] rfl) hF
/-! RouteSpeakerModel.isRejected(II)Z -/
theorem d_Mo_isRejected_0 : decode prog_12_method_47_code 0 = .ok (.iconst 3, 1) := by decide +kernel
theorem d_Mo_isRejected_1 : decode prog_12_method_47_code 1 = .ok (.iload_n 1, 1) := by decide +kernel
theorem d_Mo_isRejected_2 : decode prog_12_method_47_code 2 = .ok (.imul, 1) := by decide +kernel
theorem d_Mo_isRejected_3 : decode prog_12_method_47_code 3 = .ok (.istore_n 3, 1) := by decide +kernel
theorem d_Mo_isRejected_4 : decode prog_12_method_47_code 4 = .ok (.iload_n 3, 1) := by decide +kernel
theorem d_Mo_isRejected_5 : decode prog_12_method_47_code 5 = .ok (.iconst 3, 1) := by decide +kernel
theorem d_Mo_isRejected_6 : decode prog_12_method_47_code 6 = .ok (.iload_n 1, 1) := by decide +kernel
theorem d_Mo_isRejected_7 : decode prog_12_method_47_code 7 = .ok (.imul, 1) := by decide +kernel
theorem d_Mo_isRejected_8 : decode prog_12_method_47_code 8 = .ok (.aload_n 0, 1) := by decide +kernel
theorem d_Mo_isRejected_9 : decode prog_12_method_47_code 9 = .ok (.getfield 40, 3) := by decide +kernel
theorem d_Mo_isRejected_12 : decode prog_12_method_47_code 12 = .ok (.iload_n 1, 1) := by decide +kernel
theorem d_Mo_isRejected_13 : decode prog_12_method_47_code 13 = .ok (.iaload, 1) := by decide +kernel
theorem d_Mo_isRejected_14 : decode prog_12_method_47_code 14 = .ok (.iadd, 1) := by decide +kernel
theorem d_Mo_isRejected_15 : decode prog_12_method_47_code 15 = .ok (.if_icmp .ge (54), 3) := by decide +kernel
theorem d_Mo_isRejected_18 : decode prog_12_method_47_code 18 = .ok (.aload_n 0, 1) := by decide +kernel
theorem d_Mo_isRejected_19 : decode prog_12_method_47_code 19 = .ok (.getfield 67, 3) := by decide +kernel
theorem d_Mo_isRejected_22 : decode prog_12_method_47_code 22 = .ok (.iload_n 2, 1) := by decide +kernel
theorem d_Mo_isRejected_23 : decode prog_12_method_47_code 23 = .ok (.iaload, 1) := by decide +kernel
theorem d_Mo_isRejected_24 : decode prog_12_method_47_code 24 = .ok (.aload_n 0, 1) := by decide +kernel
theorem d_Mo_isRejected_25 : decode prog_12_method_47_code 25 = .ok (.getfield 70, 3) := by decide +kernel
theorem d_Mo_isRejected_28 : decode prog_12_method_47_code 28 = .ok (.iload_n 2, 1) := by decide +kernel
theorem d_Mo_isRejected_29 : decode prog_12_method_47_code 29 = .ok (.iaload, 1) := by decide +kernel
theorem d_Mo_isRejected_30 : decode prog_12_method_47_code 30 = .ok (.aload_n 0, 1) := by decide +kernel
theorem d_Mo_isRejected_31 : decode prog_12_method_47_code 31 = .ok (.getfield 43, 3) := by decide +kernel
theorem d_Mo_isRejected_34 : decode prog_12_method_47_code 34 = .ok (.iload_n 3, 1) := by decide +kernel
theorem d_Mo_isRejected_35 : decode prog_12_method_47_code 35 = .ok (.iaload, 1) := by decide +kernel
theorem d_Mo_isRejected_36 : decode prog_12_method_47_code 36 = .ok (.aload_n 0, 1) := by decide +kernel
theorem d_Mo_isRejected_37 : decode prog_12_method_47_code 37 = .ok (.getfield 46, 3) := by decide +kernel
theorem d_Mo_isRejected_40 : decode prog_12_method_47_code 40 = .ok (.iload_n 3, 1) := by decide +kernel
theorem d_Mo_isRejected_41 : decode prog_12_method_47_code 41 = .ok (.iaload, 1) := by decide +kernel
theorem d_Mo_isRejected_42 : decode prog_12_method_47_code 42 = .ok (.invokestatic 251, 3) := by decide +kernel
theorem d_Mo_isRejected_45 : decode prog_12_method_47_code 45 = .ok (.ifCond .eq (18), 3) := by decide +kernel
theorem d_Mo_isRejected_48 : decode prog_12_method_47_code 48 = .ok (.aload_n 0, 1) := by decide +kernel
theorem d_Mo_isRejected_49 : decode prog_12_method_47_code 49 = .ok (.getfield 49, 3) := by decide +kernel
theorem d_Mo_isRejected_52 : decode prog_12_method_47_code 52 = .ok (.iload_n 3, 1) := by decide +kernel
theorem d_Mo_isRejected_53 : decode prog_12_method_47_code 53 = .ok (.iaload, 1) := by decide +kernel
theorem d_Mo_isRejected_54 : decode prog_12_method_47_code 54 = .ok (.ifCond .ne (7), 3) := by decide +kernel
theorem d_Mo_isRejected_57 : decode prog_12_method_47_code 57 = .ok (.iconst 1, 1) := by decide +kernel
theorem d_Mo_isRejected_58 : decode prog_12_method_47_code 58 = .ok (.goto (4), 3) := by decide +kernel
theorem d_Mo_isRejected_61 : decode prog_12_method_47_code 61 = .ok (.iconst 0, 1) := by decide +kernel
theorem d_Mo_isRejected_62 : decode prog_12_method_47_code 62 = .ok (.ireturn, 1) := by decide +kernel
theorem d_Mo_isRejected_63 : decode prog_12_method_47_code 63 = .ok (.iinc 3 (1), 3) := by decide +kernel
theorem d_Mo_isRejected_66 : decode prog_12_method_47_code 66 = .ok (.goto (-62), 3) := by decide +kernel
theorem d_Mo_isRejected_69 : decode prog_12_method_47_code 69 = .ok (.iconst 0, 1) := by decide +kernel
theorem d_Mo_isRejected_70 : decode prog_12_method_47_code 70 = .ok (.ireturn, 1) := by decide +kernel
def G_Mo_isRejected_4 (N : Nat → Nat) (Q : Int32 → rs_Mem → Prop) (K4 : Nat → Int32 → Int32 → Int32 → rs_Mem → Prop) (v0 : Nat) (x1 : Int32) (x2 : Int32) (x3 : Int32) (σ : rs_Mem) : Prop :=
  (vp_in x1 (N (rs_R σ v0 11)) ∧ (((((3 : Int32) * x1) + (rs_I σ (rs_R σ v0 11) x1.toNatClampNeg)) ≤ x3 → (Q (0 : Int32) σ)) ∧ (¬ ((((3 : Int32) * x1) + (rs_I σ (rs_R σ v0 11) x1.toNatClampNeg)) ≤ x3) → (vp_in x2 (N (rs_R σ v0 22)) ∧ (vp_in x2 (N (rs_R σ v0 23)) ∧ (vp_in x3 (N (rs_R σ v0 12)) ∧ (vp_in x3 (N (rs_R σ v0 13)) ∧ (F_Mo_isWithin N (rs_I σ (rs_R σ v0 22) x2.toNatClampNeg) (rs_I σ (rs_R σ v0 23) x2.toNatClampNeg) (rs_I σ (rs_R σ v0 12) x3.toNatClampNeg) (rs_I σ (rs_R σ v0 13) x3.toNatClampNeg) σ (fun x62 σ61 => ((x62 = 0 → (∀ x63 : Int32, x63 = x3 + (1 : Int32) → (K4 v0 x1 x2 x63 σ61))) ∧ (¬ (x62 = 0) → (vp_in x3 (N (rs_R σ61 v0 14)) ∧ ((¬ ((rs_I σ61 (rs_R σ61 v0 14) x3.toNatClampNeg) = 0) → (Q (0 : Int32) σ61)) ∧ ((rs_I σ61 (rs_R σ61 v0 14) x3.toNatClampNeg) = 0 → (Q (1 : Int32) σ61)))))))))))))))
noncomputable def L_Mo_isRejected_4 (N : Nat → Nat) (Q : Int32 → rs_Mem → Prop) (n : Nat) : Nat → Int32 → Int32 → Int32 → rs_Mem → Prop := Nat.rec (motive := fun _ => Nat → Int32 → Int32 → Int32 → rs_Mem → Prop) (fun _ _ _ _ _ => False) (fun _ K => G_Mo_isRejected_4 N Q K) n
def F_Mo_isRejected (N : Nat → Nat) (v0 : Nat) (x1 : Int32) (x2 : Int32) (σ : rs_Mem) (Q : Int32 → rs_Mem → Prop) : Prop :=
  (∀ x51 : Int32, x51 = ((3 : Int32) * x1) → (∃ n : Nat, L_Mo_isRejected_4 N Q n v0 x1 x2 x51 σ))
set_option maxRecDepth 20000 in
theorem JL_Mo_isRejected_4 {p : Program} {l : Launch} {e : Env} {s : State} {m : MethodId} {args : Array Value} {below : List Frame} {meth : Method} {c : Code} {G : rs_G} {Bm : Nat} {S : rs_Shp} {Q : Int32 → rs_Mem → Prop} (C : rs_C "RouteSpeakerModel" prog_12_method_47_code 4 (some .boolean) G p s m meth c args) : ∀ n : Nat, ∀ (v0 : Nat) (x1 : Int32) (x2 : Int32) (x3 : Int32) (σ : rs_Mem) (H : Heap) (locs : List Loc) (ls : Array Slot), rs_Ok S 11 v0 → rs_H G Bm S σ H → rs_T S σ → va_S (rs_A Bm) s.heap H locs → lv_has ls 4 [(0, .ref (Bm + v0)), (1, .int x1), (2, .int x2), (3, .int x3)] → (L_Mo_isRejected_4 S.2.2 Q n) v0 x1 x2 x3 σ → W p l e { frames := 2, cells := 0, slots := 0, locals := 43 } s m args below meth c H locs 0 0 (MQ below (rs_Qi G Bm S Q) args s 0 0 (rs_A Bm)) (F0 m 4 ls []) := by
  have hx := C.1
  have hb := C.2.1
  intro n
  induction n with
  | zero => intros; rename_i hF; exact hF.elim
  | succ n hK4 =>
    intro v0 x1 x2 x3 σ H locs ls h_v0 hH hT hS hl hF
    replace hF : G_Mo_isRejected_4 S.2.2 Q (L_Mo_isRejected_4 S.2.2 Q n) v0 x1 x2 x3 σ := hF
    unfold G_Mo_isRejected_4 at hF
    refine lv_iload_n hx hb d_Mo_isRejected_4 rfl (lv_at hl 3 rfl) ?_
    refine lv_iconst hx hb d_Mo_isRejected_5 ki_3 ?_
    refine lv_iload_n hx hb d_Mo_isRejected_6 rfl (lv_at hl 1 rfl) ?_
    refine lv_imul hx hb d_Mo_isRejected_7 ?_
    refine lv_aload_n hx hb d_Mo_isRejected_8 rfl (lv_at hl 0 rfl) ?_
    refine rs_getR C hH hT h_v0 fk_11_11 tw_910 d_Mo_isRejected_9 (fun h51 => ?_)
    refine lv_iload_n hx hb d_Mo_isRejected_12 rfl (lv_at hl 1 rfl) ?_
    obtain ⟨g52, hF⟩ := hF
    refine rs_iald C hH h51 g52 d_Mo_isRejected_13 ?_
    refine lv_iadd hx hb d_Mo_isRejected_14 ?_
    refine lv_icmp_ge hx hb d_Mo_isRejected_15 (tgt := 69) rfl (fun hc => ?_) (fun hc => ?_)
    · replace hF := hF.1 hc
      refine lv_iconst hx hb d_Mo_isRejected_69 ki_0 ?_
      exact rs_zret C hH hT hS (by decide) hF d_Mo_isRejected_70
    · replace hF := hF.2 hc
      refine lv_aload_n hx hb d_Mo_isRejected_18 rfl (lv_at hl 0 rfl) ?_
      refine rs_getR C hH hT h_v0 fk_11_22 tw_921 d_Mo_isRejected_19 (fun h53 => ?_)
      refine lv_iload_n hx hb d_Mo_isRejected_22 rfl (lv_at hl 2 rfl) ?_
      obtain ⟨g54, hF⟩ := hF
      refine rs_iald C hH h53 g54 d_Mo_isRejected_23 ?_
      refine lv_aload_n hx hb d_Mo_isRejected_24 rfl (lv_at hl 0 rfl) ?_
      refine rs_getR C hH hT h_v0 fk_11_23 tw_922 d_Mo_isRejected_25 (fun h55 => ?_)
      refine lv_iload_n hx hb d_Mo_isRejected_28 rfl (lv_at hl 2 rfl) ?_
      obtain ⟨g56, hF⟩ := hF
      refine rs_iald C hH h55 g56 d_Mo_isRejected_29 ?_
      refine lv_aload_n hx hb d_Mo_isRejected_30 rfl (lv_at hl 0 rfl) ?_
      refine rs_getR C hH hT h_v0 fk_11_12 tw_911 d_Mo_isRejected_31 (fun h57 => ?_)
      refine lv_iload_n hx hb d_Mo_isRejected_34 rfl (lv_at hl 3 rfl) ?_
      obtain ⟨g58, hF⟩ := hF
      refine rs_iald C hH h57 g58 d_Mo_isRejected_35 ?_
      refine lv_aload_n hx hb d_Mo_isRejected_36 rfl (lv_at hl 0 rfl) ?_
      refine rs_getR C hH hT h_v0 fk_11_13 tw_912 d_Mo_isRejected_37 (fun h59 => ?_)
      refine lv_iload_n hx hb d_Mo_isRejected_40 rfl (lv_at hl 3 rfl) ?_
      obtain ⟨g60, hF⟩ := hF
      refine rs_iald C hH h59 g60 d_Mo_isRejected_41 ?_
      refine rs_ci (rs_runS C hH hT hl (J_Mo_isWithin l hF) rc_Mo_isWithin tw_1061 tw_1062 rfl ⟨⟨rfl, rfl⟩, by decide, by decide, by decide⟩ (Nat.le_of_ble_eq_true rfl) rfl d_Mo_isRejected_42) hS (fun x62 σ61 H locs hH hT hS hF => ?_)
      refine lv_if_eq hx hb d_Mo_isRejected_45 (tgt := 63) rfl (fun hc => ?_) (fun hc => ?_)
      · replace hF := hF.1 hc
        obtain ⟨x63, ex63⟩ : ∃ z : Int32, z = x3 + (1 : Int32) := ⟨_, rfl⟩
        replace hF := hF x63 ex63
        refine lv_iinc hx hb d_Mo_isRejected_63 hl (k := 3) rfl (v := x63) (by rw [ki_1, ex63]) (by decide) (lv' := [(3, .int x63), (0, .ref (Bm + v0)), (1, .int x1), (2, .int x2)]) rfl (fun ls hl => ?_)
        refine lv_goto hx hb d_Mo_isRejected_66 (tgt := 4) rfl ?_
        exact hK4 v0 x1 x2 x63 σ61 _ _ _ h_v0 hH hT hS (lv_sub hl [1, 2, 3, 0] rfl) hF
      · replace hF := hF.2 hc
        refine lv_aload_n hx hb d_Mo_isRejected_48 rfl (lv_at hl 0 rfl) ?_
        refine rs_getR C hH hT h_v0 fk_11_14 tw_913 d_Mo_isRejected_49 (fun h63 => ?_)
        refine lv_iload_n hx hb d_Mo_isRejected_52 rfl (lv_at hl 3 rfl) ?_
        obtain ⟨g64, hF⟩ := hF
        refine rs_iald C hH h63 g64 d_Mo_isRejected_53 ?_
        refine lv_if_ne hx hb d_Mo_isRejected_54 (tgt := 61) rfl (fun hc => ?_) (fun hc => ?_)
        · replace hF := hF.1 hc
          refine lv_iconst hx hb d_Mo_isRejected_61 ki_0 ?_
          exact rs_zret C hH hT hS (by decide) hF d_Mo_isRejected_62
        · replace hF := hF.2 hc
          refine lv_iconst hx hb d_Mo_isRejected_57 ki_1 ?_
          refine lv_goto hx hb d_Mo_isRejected_58 (tgt := 62) rfl ?_
          exact rs_zret C hH hT hS (by decide) hF d_Mo_isRejected_62
abbrev y_Mo_isRejected : MethodName := ({ cls := "RouteSpeakerModel", name := "isRejected", desc := "(II)Z" } : Jvm.MethodName)
theorem rc_Mo_isRejected : rs_Cal y_Mo_isRejected prog_12_method_47_code 4 (some .boolean) 2 := ⟨tw_1060, tw_11, by decide, by decide, by decide +kernel⟩
set_option maxRecDepth 20000 in
theorem J_Mo_isRejected (l : Launch) {G : rs_G} {Bm : Nat} {S : rs_Shp} {v0 : Nat} {x1 : Int32} {x2 : Int32} {σ : rs_Mem} {Q : Int32 → rs_Mem → Prop} (h_v0 : rs_Ok S 11 v0) (hF : F_Mo_isRejected S.2.2 v0 x1 x2 σ Q) :
    Met l y_Mo_isRejected (rs_ws y_Mo_isRejected prog_12_method_47_code 4 (some .boolean)) { frames := 2, cells := 0, slots := 0, locals := 43 } (rs_P G Bm S σ [.ref (Bm + v0), .int x1, .int x2]) (rs_Qi G Bm S Q) 0 0 (rs_A Bm) := by
  refine rs_met (own := "RouteSpeakerModel") (by decide) rfl (Nat.le_of_ble_eq_true rfl) (fun p e s m below meth c ls C hl hH hT hS => ?_)
  replace hl : lv_has ls 4 [(0, .ref (Bm + v0)), (1, .int x1), (2, .int x2)] := hl
  have hx := C.1
  have hb := C.2.1
  unfold F_Mo_isRejected at hF
  refine lv_iconst hx hb d_Mo_isRejected_0 ki_3 ?_
  refine lv_iload_n hx hb d_Mo_isRejected_1 rfl (lv_at hl 1 rfl) ?_
  refine lv_imul hx hb d_Mo_isRejected_2 ?_
  refine lv_topi (fun x51 ex51 => ?_)
  replace hF := hF x51 ex51
  refine lv_istore_n hx hb d_Mo_isRejected_3 rfl hl (by decide) (lv' := [(3, .int x51), (0, .ref (Bm + v0)), (1, .int x1), (2, .int x2)]) rfl (fun ls hl => ?_)
  obtain ⟨n, hF⟩ := hF
  exact JL_Mo_isRejected_4 C n v0 x1 x2 x51 σ _ _ _ h_v0 hH hT hS (lv_sub hl [1, 2, 3, 0] rfl) hF
/-! RouteSpeakerModel.firstOf(I)I -/
theorem d_Mo_firstOf_0 : decode prog_12_method_50_code 0 = .ok (.aload_n 0, 1) := by decide +kernel
theorem d_Mo_firstOf_1 : decode prog_12_method_50_code 1 = .ok (.getfield 80, 3) := by decide +kernel
theorem d_Mo_firstOf_4 : decode prog_12_method_50_code 4 = .ok (.iload_n 1, 1) := by decide +kernel
theorem d_Mo_firstOf_5 : decode prog_12_method_50_code 5 = .ok (.iaload, 1) := by decide +kernel
theorem d_Mo_firstOf_6 : decode prog_12_method_50_code 6 = .ok (.ifCond .ne (7), 3) := by decide +kernel
theorem d_Mo_firstOf_9 : decode prog_12_method_50_code 9 = .ok (.iconst 0, 1) := by decide +kernel
theorem d_Mo_firstOf_10 : decode prog_12_method_50_code 10 = .ok (.goto (12), 3) := by decide +kernel
theorem d_Mo_firstOf_13 : decode prog_12_method_50_code 13 = .ok (.aload_n 0, 1) := by decide +kernel
theorem d_Mo_firstOf_14 : decode prog_12_method_50_code 14 = .ok (.getfield 83, 3) := by decide +kernel
theorem d_Mo_firstOf_17 : decode prog_12_method_50_code 17 = .ok (.bipush (8), 2) := by decide +kernel
theorem d_Mo_firstOf_19 : decode prog_12_method_50_code 19 = .ok (.iload_n 1, 1) := by decide +kernel
theorem d_Mo_firstOf_20 : decode prog_12_method_50_code 20 = .ok (.imul, 1) := by decide +kernel
theorem d_Mo_firstOf_21 : decode prog_12_method_50_code 21 = .ok (.iaload, 1) := by decide +kernel
theorem d_Mo_firstOf_22 : decode prog_12_method_50_code 22 = .ok (.ireturn, 1) := by decide +kernel
def F_Mo_firstOf (N : Nat → Nat) (v0 : Nat) (x1 : Int32) (σ : rs_Mem) (Q : Int32 → rs_Mem → Prop) : Prop :=
  (vp_in x1 (N (rs_R σ v0 26)) ∧ ((¬ ((rs_I σ (rs_R σ v0 26) x1.toNatClampNeg) = 0) → (vp_in ((8 : Int32) * x1) (N (rs_R σ v0 27)) ∧ (Q (rs_I σ (rs_R σ v0 27) ((8 : Int32) * x1).toNatClampNeg) σ))) ∧ ((rs_I σ (rs_R σ v0 26) x1.toNatClampNeg) = 0 → (Q (0 : Int32) σ))))
abbrev y_Mo_firstOf : MethodName := ({ cls := "RouteSpeakerModel", name := "firstOf", desc := "(I)I" } : Jvm.MethodName)
theorem rc_Mo_firstOf : rs_Cal y_Mo_firstOf prog_12_method_50_code 2 (some .int) 1 := ⟨tw_1078, tw_11, by decide, by decide, by decide +kernel⟩
set_option maxRecDepth 20000 in
theorem J_Mo_firstOf (l : Launch) {G : rs_G} {Bm : Nat} {S : rs_Shp} {v0 : Nat} {x1 : Int32} {σ : rs_Mem} {Q : Int32 → rs_Mem → Prop} (h_v0 : rs_Ok S 11 v0) (hF : F_Mo_firstOf S.2.2 v0 x1 σ Q) :
    Met l y_Mo_firstOf (rs_ws y_Mo_firstOf prog_12_method_50_code 2 (some .int)) { frames := 0, cells := 0, slots := 0, locals := 0 } (rs_P G Bm S σ [.ref (Bm + v0), .int x1]) (rs_Qi G Bm S Q) 0 0 (rs_A Bm) := by
  refine rs_met (own := "RouteSpeakerModel") (by decide) rfl (Nat.le_of_ble_eq_true rfl) (fun p e s m below meth c ls C hl hH hT hS => ?_)
  replace hl : lv_has ls 2 [(0, .ref (Bm + v0)), (1, .int x1)] := hl
  have hx := C.1
  have hb := C.2.1
  unfold F_Mo_firstOf at hF
  refine lv_aload_n hx hb d_Mo_firstOf_0 rfl (lv_at hl 0 rfl) ?_
  refine rs_getR C hH hT h_v0 fk_11_26 tw_925 d_Mo_firstOf_1 (fun h51 => ?_)
  refine lv_iload_n hx hb d_Mo_firstOf_4 rfl (lv_at hl 1 rfl) ?_
  obtain ⟨g52, hF⟩ := hF
  refine rs_iald C hH h51 g52 d_Mo_firstOf_5 ?_
  refine lv_if_ne hx hb d_Mo_firstOf_6 (tgt := 13) rfl (fun hc => ?_) (fun hc => ?_)
  · replace hF := hF.1 hc
    refine lv_aload_n hx hb d_Mo_firstOf_13 rfl (lv_at hl 0 rfl) ?_
    refine rs_getR C hH hT h_v0 fk_11_27 tw_926 d_Mo_firstOf_14 (fun h53 => ?_)
    refine lv_bipush hx hb d_Mo_firstOf_17 kb_8 ?_
    refine lv_iload_n hx hb d_Mo_firstOf_19 rfl (lv_at hl 1 rfl) ?_
    refine lv_imul hx hb d_Mo_firstOf_20 ?_
    obtain ⟨g54, hF⟩ := hF
    refine rs_iald C hH h53 g54 d_Mo_firstOf_21 ?_
    exact rs_iret C hH hT hS hF d_Mo_firstOf_22
  · replace hF := hF.2 hc
    refine lv_iconst hx hb d_Mo_firstOf_9 ki_0 ?_
    refine lv_goto hx hb d_Mo_firstOf_10 (tgt := 22) rfl ?_
    exact rs_iret C hH hT hS hF d_Mo_firstOf_22
/-! RouteSpeakerModel.isBeaten(II)Z -/
theorem d_Mo_isBeaten_0 : decode prog_12_method_51_code 0 = .ok (.iconst 0, 1) := by decide +kernel
theorem d_Mo_isBeaten_1 : decode prog_12_method_51_code 1 = .ok (.istore_n 3, 1) := by decide +kernel
theorem d_Mo_isBeaten_2 : decode prog_12_method_51_code 2 = .ok (.iconst 0, 1) := by decide +kernel
theorem d_Mo_isBeaten_3 : decode prog_12_method_51_code 3 = .ok (.istore 4, 2) := by decide +kernel
theorem d_Mo_isBeaten_5 : decode prog_12_method_51_code 5 = .ok (.iload 4, 2) := by decide +kernel
theorem d_Mo_isBeaten_7 : decode prog_12_method_51_code 7 = .ok (.iconst 5, 1) := by decide +kernel
theorem d_Mo_isBeaten_8 : decode prog_12_method_51_code 8 = .ok (.if_icmp .ge (124), 3) := by decide +kernel
theorem d_Mo_isBeaten_11 : decode prog_12_method_51_code 11 = .ok (.aload_n 0, 1) := by decide +kernel
theorem d_Mo_isBeaten_12 : decode prog_12_method_51_code 12 = .ok (.getfield 89, 3) := by decide +kernel
theorem d_Mo_isBeaten_15 : decode prog_12_method_51_code 15 = .ok (.bipush (12), 2) := by decide +kernel
theorem d_Mo_isBeaten_17 : decode prog_12_method_51_code 17 = .ok (.iload_n 1, 1) := by decide +kernel
theorem d_Mo_isBeaten_18 : decode prog_12_method_51_code 18 = .ok (.imul, 1) := by decide +kernel
theorem d_Mo_isBeaten_19 : decode prog_12_method_51_code 19 = .ok (.iload_n 2, 1) := by decide +kernel
theorem d_Mo_isBeaten_20 : decode prog_12_method_51_code 20 = .ok (.iadd, 1) := by decide +kernel
theorem d_Mo_isBeaten_21 : decode prog_12_method_51_code 21 = .ok (.iaload, 1) := by decide +kernel
theorem d_Mo_isBeaten_22 : decode prog_12_method_51_code 22 = .ok (.ifCond .ge (7), 3) := by decide +kernel
theorem d_Mo_isBeaten_25 : decode prog_12_method_51_code 25 = .ok (.iconst 0, 1) := by decide +kernel
theorem d_Mo_isBeaten_26 : decode prog_12_method_51_code 26 = .ok (.goto (14), 3) := by decide +kernel
theorem d_Mo_isBeaten_29 : decode prog_12_method_51_code 29 = .ok (.aload_n 0, 1) := by decide +kernel
theorem d_Mo_isBeaten_30 : decode prog_12_method_51_code 30 = .ok (.getfield 89, 3) := by decide +kernel
theorem d_Mo_isBeaten_33 : decode prog_12_method_51_code 33 = .ok (.bipush (12), 2) := by decide +kernel
theorem d_Mo_isBeaten_35 : decode prog_12_method_51_code 35 = .ok (.iload_n 1, 1) := by decide +kernel
theorem d_Mo_isBeaten_36 : decode prog_12_method_51_code 36 = .ok (.imul, 1) := by decide +kernel
theorem d_Mo_isBeaten_37 : decode prog_12_method_51_code 37 = .ok (.iload_n 2, 1) := by decide +kernel
theorem d_Mo_isBeaten_38 : decode prog_12_method_51_code 38 = .ok (.iadd, 1) := by decide +kernel
theorem d_Mo_isBeaten_39 : decode prog_12_method_51_code 39 = .ok (.iaload, 1) := by decide +kernel
theorem d_Mo_isBeaten_40 : decode prog_12_method_51_code 40 = .ok (.istore 5, 2) := by decide +kernel
theorem d_Mo_isBeaten_42 : decode prog_12_method_51_code 42 = .ok (.aload_n 0, 1) := by decide +kernel
theorem d_Mo_isBeaten_43 : decode prog_12_method_51_code 43 = .ok (.getfield 89, 3) := by decide +kernel
theorem d_Mo_isBeaten_46 : decode prog_12_method_51_code 46 = .ok (.bipush (12), 2) := by decide +kernel
theorem d_Mo_isBeaten_48 : decode prog_12_method_51_code 48 = .ok (.iload 4, 2) := by decide +kernel
theorem d_Mo_isBeaten_50 : decode prog_12_method_51_code 50 = .ok (.imul, 1) := by decide +kernel
theorem d_Mo_isBeaten_51 : decode prog_12_method_51_code 51 = .ok (.iload_n 2, 1) := by decide +kernel
theorem d_Mo_isBeaten_52 : decode prog_12_method_51_code 52 = .ok (.iadd, 1) := by decide +kernel
theorem d_Mo_isBeaten_53 : decode prog_12_method_51_code 53 = .ok (.iaload, 1) := by decide +kernel
theorem d_Mo_isBeaten_54 : decode prog_12_method_51_code 54 = .ok (.ifCond .ge (7), 3) := by decide +kernel
theorem d_Mo_isBeaten_57 : decode prog_12_method_51_code 57 = .ok (.iconst 0, 1) := by decide +kernel
theorem d_Mo_isBeaten_58 : decode prog_12_method_51_code 58 = .ok (.goto (15), 3) := by decide +kernel
theorem d_Mo_isBeaten_61 : decode prog_12_method_51_code 61 = .ok (.aload_n 0, 1) := by decide +kernel
theorem d_Mo_isBeaten_62 : decode prog_12_method_51_code 62 = .ok (.getfield 89, 3) := by decide +kernel
theorem d_Mo_isBeaten_65 : decode prog_12_method_51_code 65 = .ok (.bipush (12), 2) := by decide +kernel
theorem d_Mo_isBeaten_67 : decode prog_12_method_51_code 67 = .ok (.iload 4, 2) := by decide +kernel
theorem d_Mo_isBeaten_69 : decode prog_12_method_51_code 69 = .ok (.imul, 1) := by decide +kernel
theorem d_Mo_isBeaten_70 : decode prog_12_method_51_code 70 = .ok (.iload_n 2, 1) := by decide +kernel
theorem d_Mo_isBeaten_71 : decode prog_12_method_51_code 71 = .ok (.iadd, 1) := by decide +kernel
theorem d_Mo_isBeaten_72 : decode prog_12_method_51_code 72 = .ok (.iaload, 1) := by decide +kernel
theorem d_Mo_isBeaten_73 : decode prog_12_method_51_code 73 = .ok (.istore 6, 2) := by decide +kernel
theorem d_Mo_isBeaten_75 : decode prog_12_method_51_code 75 = .ok (.iload_n 3, 1) := by decide +kernel
theorem d_Mo_isBeaten_76 : decode prog_12_method_51_code 76 = .ok (.ifCond .ne (44), 3) := by decide +kernel
theorem d_Mo_isBeaten_79 : decode prog_12_method_51_code 79 = .ok (.aload_n 0, 1) := by decide +kernel
theorem d_Mo_isBeaten_80 : decode prog_12_method_51_code 80 = .ok (.getfield 123, 3) := by decide +kernel
theorem d_Mo_isBeaten_83 : decode prog_12_method_51_code 83 = .ok (.iload 4, 2) := by decide +kernel
theorem d_Mo_isBeaten_85 : decode prog_12_method_51_code 85 = .ok (.baload, 1) := by decide +kernel
theorem d_Mo_isBeaten_86 : decode prog_12_method_51_code 86 = .ok (.ifCond .eq (38), 3) := by decide +kernel
theorem d_Mo_isBeaten_89 : decode prog_12_method_51_code 89 = .ok (.aload_n 0, 1) := by decide +kernel
theorem d_Mo_isBeaten_90 : decode prog_12_method_51_code 90 = .ok (.bipush (12), 2) := by decide +kernel
theorem d_Mo_isBeaten_92 : decode prog_12_method_51_code 92 = .ok (.iload_n 1, 1) := by decide +kernel
theorem d_Mo_isBeaten_93 : decode prog_12_method_51_code 93 = .ok (.imul, 1) := by decide +kernel
theorem d_Mo_isBeaten_94 : decode prog_12_method_51_code 94 = .ok (.iload_n 2, 1) := by decide +kernel
theorem d_Mo_isBeaten_95 : decode prog_12_method_51_code 95 = .ok (.iadd, 1) := by decide +kernel
theorem d_Mo_isBeaten_96 : decode prog_12_method_51_code 96 = .ok (.invokevirtual 262, 3) := by decide +kernel
theorem d_Mo_isBeaten_99 : decode prog_12_method_51_code 99 = .ok (.aload_n 0, 1) := by decide +kernel
theorem d_Mo_isBeaten_100 : decode prog_12_method_51_code 100 = .ok (.bipush (12), 2) := by decide +kernel
theorem d_Mo_isBeaten_102 : decode prog_12_method_51_code 102 = .ok (.iload 4, 2) := by decide +kernel
theorem d_Mo_isBeaten_104 : decode prog_12_method_51_code 104 = .ok (.imul, 1) := by decide +kernel
theorem d_Mo_isBeaten_105 : decode prog_12_method_51_code 105 = .ok (.iload_n 2, 1) := by decide +kernel
theorem d_Mo_isBeaten_106 : decode prog_12_method_51_code 106 = .ok (.iadd, 1) := by decide +kernel
theorem d_Mo_isBeaten_107 : decode prog_12_method_51_code 107 = .ok (.invokevirtual 262, 3) := by decide +kernel
theorem d_Mo_isBeaten_110 : decode prog_12_method_51_code 110 = .ok (.if_icmp .ne (14), 3) := by decide +kernel
theorem d_Mo_isBeaten_113 : decode prog_12_method_51_code 113 = .ok (.iload 6, 2) := by decide +kernel
theorem d_Mo_isBeaten_115 : decode prog_12_method_51_code 115 = .ok (.iload 5, 2) := by decide +kernel
theorem d_Mo_isBeaten_117 : decode prog_12_method_51_code 117 = .ok (.if_icmp .ge (7), 3) := by decide +kernel
theorem d_Mo_isBeaten_120 : decode prog_12_method_51_code 120 = .ok (.iconst 1, 1) := by decide +kernel
theorem d_Mo_isBeaten_121 : decode prog_12_method_51_code 121 = .ok (.goto (4), 3) := by decide +kernel
theorem d_Mo_isBeaten_124 : decode prog_12_method_51_code 124 = .ok (.iconst 0, 1) := by decide +kernel
theorem d_Mo_isBeaten_125 : decode prog_12_method_51_code 125 = .ok (.istore_n 3, 1) := by decide +kernel
theorem d_Mo_isBeaten_126 : decode prog_12_method_51_code 126 = .ok (.iinc 4 (1), 3) := by decide +kernel
theorem d_Mo_isBeaten_129 : decode prog_12_method_51_code 129 = .ok (.goto (-124), 3) := by decide +kernel
theorem d_Mo_isBeaten_132 : decode prog_12_method_51_code 132 = .ok (.iload_n 3, 1) := by decide +kernel
theorem d_Mo_isBeaten_133 : decode prog_12_method_51_code 133 = .ok (.ireturn, 1) := by decide +kernel
def B_Mo_isBeaten_120 (N : Nat → Nat) (K5 : Nat → Int32 → Int32 → Int32 → Int32 → rs_Mem → Prop) (Q : Int32 → rs_Mem → Prop) (v0 : Nat) (x1 : Int32) (x2 : Int32) (x4 : Int32) (σ : rs_Mem) : Prop :=
  (∀ x51 : Int32, x51 = x4 + (1 : Int32) → (K5 v0 x1 x2 (1 : Int32) x51 σ))
def B_Mo_isBeaten_124 (N : Nat → Nat) (K5 : Nat → Int32 → Int32 → Int32 → Int32 → rs_Mem → Prop) (Q : Int32 → rs_Mem → Prop) (v0 : Nat) (x1 : Int32) (x2 : Int32) (x4 : Int32) (σ : rs_Mem) : Prop :=
  (∀ x51 : Int32, x51 = x4 + (1 : Int32) → (K5 v0 x1 x2 (0 : Int32) x51 σ))
def B_Mo_isBeaten_73 (N : Nat → Nat) (K5 : Nat → Int32 → Int32 → Int32 → Int32 → rs_Mem → Prop) (Q : Int32 → rs_Mem → Prop) (v0 : Nat) (x1 : Int32) (x2 : Int32) (x3 : Int32) (x4 : Int32) (x5 : Int32) (y0 : Int32) (σ : rs_Mem) : Prop :=
  ((¬ (x3 = 0) → (B_Mo_isBeaten_120 N K5 Q v0 x1 x2 x4 σ)) ∧ (x3 = 0 → (vp_in x4 (N (rs_R σ v0 40)) ∧ (((rs_I σ (rs_R σ v0 40) x4.toNatClampNeg) = 0 → (B_Mo_isBeaten_124 N K5 Q v0 x1 x2 x4 σ)) ∧ (¬ ((rs_I σ (rs_R σ v0 40) x4.toNatClampNeg) = 0) → (F_Mo_firstOf N v0 (((12 : Int32) * x1) + x2) σ (fun x54 σ53 => (F_Mo_firstOf N v0 (((12 : Int32) * x4) + x2) σ53 (fun x56 σ55 => ((¬ (x54 = x56) → (B_Mo_isBeaten_124 N K5 Q v0 x1 x2 x4 σ55)) ∧ (x54 = x56 → ((x5 ≤ y0 → (B_Mo_isBeaten_124 N K5 Q v0 x1 x2 x4 σ55)) ∧ (¬ (x5 ≤ y0) → (B_Mo_isBeaten_120 N K5 Q v0 x1 x2 x4 σ55))))))))))))))
def B_Mo_isBeaten_40 (N : Nat → Nat) (K5 : Nat → Int32 → Int32 → Int32 → Int32 → rs_Mem → Prop) (Q : Int32 → rs_Mem → Prop) (v0 : Nat) (x1 : Int32) (x2 : Int32) (x3 : Int32) (x4 : Int32) (y0 : Int32) (σ : rs_Mem) : Prop :=
  (vp_in (((12 : Int32) * x4) + x2) (N (rs_R σ v0 29)) ∧ ((0 ≤ (rs_I σ (rs_R σ v0 29) (((12 : Int32) * x4) + x2).toNatClampNeg) → (vp_in (((12 : Int32) * x4) + x2) (N (rs_R σ v0 29)) ∧ (B_Mo_isBeaten_73 N K5 Q v0 x1 x2 x3 x4 y0 (rs_I σ (rs_R σ v0 29) (((12 : Int32) * x4) + x2).toNatClampNeg) σ))) ∧ (¬ (0 ≤ (rs_I σ (rs_R σ v0 29) (((12 : Int32) * x4) + x2).toNatClampNeg)) → (B_Mo_isBeaten_73 N K5 Q v0 x1 x2 x3 x4 y0 (0 : Int32) σ))))
def G_Mo_isBeaten_5 (N : Nat → Nat) (Q : Int32 → rs_Mem → Prop) (K5 : Nat → Int32 → Int32 → Int32 → Int32 → rs_Mem → Prop) (v0 : Nat) (x1 : Int32) (x2 : Int32) (x3 : Int32) (x4 : Int32) (σ : rs_Mem) : Prop :=
  (((5 : Int32) ≤ x4 → ((x3 &&& 1 = x3) ∧ Q x3 σ)) ∧ (¬ ((5 : Int32) ≤ x4) → (vp_in (((12 : Int32) * x1) + x2) (N (rs_R σ v0 29)) ∧ ((0 ≤ (rs_I σ (rs_R σ v0 29) (((12 : Int32) * x1) + x2).toNatClampNeg) → (vp_in (((12 : Int32) * x1) + x2) (N (rs_R σ v0 29)) ∧ (B_Mo_isBeaten_40 N K5 Q v0 x1 x2 x3 x4 (rs_I σ (rs_R σ v0 29) (((12 : Int32) * x1) + x2).toNatClampNeg) σ))) ∧ (¬ (0 ≤ (rs_I σ (rs_R σ v0 29) (((12 : Int32) * x1) + x2).toNatClampNeg)) → (B_Mo_isBeaten_40 N K5 Q v0 x1 x2 x3 x4 (0 : Int32) σ))))))
noncomputable def L_Mo_isBeaten_5 (N : Nat → Nat) (Q : Int32 → rs_Mem → Prop) (n : Nat) : Nat → Int32 → Int32 → Int32 → Int32 → rs_Mem → Prop := Nat.rec (motive := fun _ => Nat → Int32 → Int32 → Int32 → Int32 → rs_Mem → Prop) (fun _ _ _ _ _ _ => False) (fun _ K => G_Mo_isBeaten_5 N Q K) n
def F_Mo_isBeaten (N : Nat → Nat) (v0 : Nat) (x1 : Int32) (x2 : Int32) (σ : rs_Mem) (Q : Int32 → rs_Mem → Prop) : Prop :=
  (∃ n : Nat, L_Mo_isBeaten_5 N Q n v0 x1 x2 (0 : Int32) (0 : Int32) σ)
set_option maxRecDepth 20000 in
theorem JB_Mo_isBeaten_120 {p : Program} {l : Launch} {e : Env} {s : State} {m : MethodId} {args : Array Value} {below : List Frame} {meth : Method} {c : Code} {G : rs_G} {Bm : Nat} {S : rs_Shp} {K5 : Nat → Int32 → Int32 → Int32 → Int32 → rs_Mem → Prop} {Q : Int32 → rs_Mem → Prop} (C : rs_C "RouteSpeakerModel" prog_12_method_51_code 7 (some .boolean) G p s m meth c args) (hK5 : ∀ (v0 : Nat) (x1 : Int32) (x2 : Int32) (x3 : Int32) (x4 : Int32) (σ : rs_Mem) (H : Heap) (locs : List Loc) (ls : Array Slot), rs_Ok S 11 v0 → rs_H G Bm S σ H → rs_T S σ → va_S (rs_A Bm) s.heap H locs → lv_has ls 7 [(0, .ref (Bm + v0)), (1, .int x1), (2, .int x2), (3, .int x3), (4, .int x4)] → K5 v0 x1 x2 x3 x4 σ → W p l e { frames := 1, cells := 0, slots := 0, locals := 21 } s m args below meth c H locs 0 0 (MQ below (rs_Qi G Bm S Q) args s 0 0 (rs_A Bm)) (F0 m 5 ls [])) (v0 : Nat) (x1 : Int32) (x2 : Int32) (x4 : Int32) (σ : rs_Mem) (H : Heap) (locs : List Loc) (ls : Array Slot) (h_v0 : rs_Ok S 11 v0) (hH : rs_H G Bm S σ H) (hT : rs_T S σ) (hS : va_S (rs_A Bm) s.heap H locs) (hl : lv_has ls 7 [(0, .ref (Bm + v0)), (1, .int x1), (2, .int x2), (4, .int x4)]) (hF : B_Mo_isBeaten_120 S.2.2 K5 Q v0 x1 x2 x4 σ) :
    W p l e { frames := 1, cells := 0, slots := 0, locals := 21 } s m args below meth c H locs 0 0 (MQ below (rs_Qi G Bm S Q) args s 0 0 (rs_A Bm)) (F0 m 120 ls []) := by
  have hx := C.1
  have hb := C.2.1
  unfold B_Mo_isBeaten_120 at hF
  refine lv_iconst hx hb d_Mo_isBeaten_120 ki_1 ?_
  refine lv_goto hx hb d_Mo_isBeaten_121 (tgt := 125) rfl ?_
  refine lv_istore_n hx hb d_Mo_isBeaten_125 rfl hl (by decide) (lv' := [(3, .int (1 : Int32)), (0, .ref (Bm + v0)), (1, .int x1), (2, .int x2), (4, .int x4)]) rfl (fun ls hl => ?_)
  obtain ⟨x51, ex51⟩ : ∃ z : Int32, z = x4 + (1 : Int32) := ⟨_, rfl⟩
  replace hF := hF x51 ex51
  refine lv_iinc hx hb d_Mo_isBeaten_126 hl (k := 4) rfl (v := x51) (by rw [ki_1, ex51]) (by decide) (lv' := [(4, .int x51), (3, .int (1 : Int32)), (0, .ref (Bm + v0)), (1, .int x1), (2, .int x2)]) rfl (fun ls hl => ?_)
  refine lv_goto hx hb d_Mo_isBeaten_129 (tgt := 5) rfl ?_
  exact hK5 v0 x1 x2 (1 : Int32) x51 σ _ _ _ h_v0 hH hT hS (lv_sub hl [2, 3, 4, 1, 0] rfl) hF
set_option maxRecDepth 20000 in
theorem JB_Mo_isBeaten_124 {p : Program} {l : Launch} {e : Env} {s : State} {m : MethodId} {args : Array Value} {below : List Frame} {meth : Method} {c : Code} {G : rs_G} {Bm : Nat} {S : rs_Shp} {K5 : Nat → Int32 → Int32 → Int32 → Int32 → rs_Mem → Prop} {Q : Int32 → rs_Mem → Prop} (C : rs_C "RouteSpeakerModel" prog_12_method_51_code 7 (some .boolean) G p s m meth c args) (hK5 : ∀ (v0 : Nat) (x1 : Int32) (x2 : Int32) (x3 : Int32) (x4 : Int32) (σ : rs_Mem) (H : Heap) (locs : List Loc) (ls : Array Slot), rs_Ok S 11 v0 → rs_H G Bm S σ H → rs_T S σ → va_S (rs_A Bm) s.heap H locs → lv_has ls 7 [(0, .ref (Bm + v0)), (1, .int x1), (2, .int x2), (3, .int x3), (4, .int x4)] → K5 v0 x1 x2 x3 x4 σ → W p l e { frames := 1, cells := 0, slots := 0, locals := 21 } s m args below meth c H locs 0 0 (MQ below (rs_Qi G Bm S Q) args s 0 0 (rs_A Bm)) (F0 m 5 ls [])) (v0 : Nat) (x1 : Int32) (x2 : Int32) (x4 : Int32) (σ : rs_Mem) (H : Heap) (locs : List Loc) (ls : Array Slot) (h_v0 : rs_Ok S 11 v0) (hH : rs_H G Bm S σ H) (hT : rs_T S σ) (hS : va_S (rs_A Bm) s.heap H locs) (hl : lv_has ls 7 [(0, .ref (Bm + v0)), (1, .int x1), (2, .int x2), (4, .int x4)]) (hF : B_Mo_isBeaten_124 S.2.2 K5 Q v0 x1 x2 x4 σ) :
    W p l e { frames := 1, cells := 0, slots := 0, locals := 21 } s m args below meth c H locs 0 0 (MQ below (rs_Qi G Bm S Q) args s 0 0 (rs_A Bm)) (F0 m 124 ls []) := by
  have hx := C.1
  have hb := C.2.1
  unfold B_Mo_isBeaten_124 at hF
  refine lv_iconst hx hb d_Mo_isBeaten_124 ki_0 ?_
  refine lv_istore_n hx hb d_Mo_isBeaten_125 rfl hl (by decide) (lv' := [(3, .int (0 : Int32)), (0, .ref (Bm + v0)), (1, .int x1), (2, .int x2), (4, .int x4)]) rfl (fun ls hl => ?_)
  obtain ⟨x51, ex51⟩ : ∃ z : Int32, z = x4 + (1 : Int32) := ⟨_, rfl⟩
  replace hF := hF x51 ex51
  refine lv_iinc hx hb d_Mo_isBeaten_126 hl (k := 4) rfl (v := x51) (by rw [ki_1, ex51]) (by decide) (lv' := [(4, .int x51), (3, .int (0 : Int32)), (0, .ref (Bm + v0)), (1, .int x1), (2, .int x2)]) rfl (fun ls hl => ?_)
  refine lv_goto hx hb d_Mo_isBeaten_129 (tgt := 5) rfl ?_
  exact hK5 v0 x1 x2 (0 : Int32) x51 σ _ _ _ h_v0 hH hT hS (lv_sub hl [2, 3, 4, 1, 0] rfl) hF
set_option maxRecDepth 20000 in
theorem JB_Mo_isBeaten_73 {p : Program} {l : Launch} {e : Env} {s : State} {m : MethodId} {args : Array Value} {below : List Frame} {meth : Method} {c : Code} {G : rs_G} {Bm : Nat} {S : rs_Shp} {K5 : Nat → Int32 → Int32 → Int32 → Int32 → rs_Mem → Prop} {Q : Int32 → rs_Mem → Prop} (C : rs_C "RouteSpeakerModel" prog_12_method_51_code 7 (some .boolean) G p s m meth c args) (hK5 : ∀ (v0 : Nat) (x1 : Int32) (x2 : Int32) (x3 : Int32) (x4 : Int32) (σ : rs_Mem) (H : Heap) (locs : List Loc) (ls : Array Slot), rs_Ok S 11 v0 → rs_H G Bm S σ H → rs_T S σ → va_S (rs_A Bm) s.heap H locs → lv_has ls 7 [(0, .ref (Bm + v0)), (1, .int x1), (2, .int x2), (3, .int x3), (4, .int x4)] → K5 v0 x1 x2 x3 x4 σ → W p l e { frames := 1, cells := 0, slots := 0, locals := 21 } s m args below meth c H locs 0 0 (MQ below (rs_Qi G Bm S Q) args s 0 0 (rs_A Bm)) (F0 m 5 ls [])) (v0 : Nat) (x1 : Int32) (x2 : Int32) (x3 : Int32) (x4 : Int32) (x5 : Int32) (y0 : Int32) (σ : rs_Mem) (H : Heap) (locs : List Loc) (ls : Array Slot) (h_v0 : rs_Ok S 11 v0) (hH : rs_H G Bm S σ H) (hT : rs_T S σ) (hS : va_S (rs_A Bm) s.heap H locs) (hl : lv_has ls 7 [(0, .ref (Bm + v0)), (1, .int x1), (2, .int x2), (3, .int x3), (4, .int x4), (5, .int x5)]) (hF : B_Mo_isBeaten_73 S.2.2 K5 Q v0 x1 x2 x3 x4 x5 y0 σ) :
    W p l e { frames := 1, cells := 0, slots := 0, locals := 21 } s m args below meth c H locs 0 0 (MQ below (rs_Qi G Bm S Q) args s 0 0 (rs_A Bm)) (F0 m 73 ls [.int y0]) := by
  have hx := C.1
  have hb := C.2.1
  unfold B_Mo_isBeaten_73 at hF
  refine lv_istore hx hb d_Mo_isBeaten_73 hl (by decide) (lv' := [(6, .int y0), (0, .ref (Bm + v0)), (1, .int x1), (2, .int x2), (3, .int x3), (4, .int x4), (5, .int x5)]) rfl (fun ls hl => ?_)
  refine lv_iload_n hx hb d_Mo_isBeaten_75 rfl (lv_at hl 4 rfl) ?_
  refine lv_if_ne hx hb d_Mo_isBeaten_76 (tgt := 120) rfl (fun hc => ?_) (fun hc => ?_)
  · replace hF := hF.1 hc
    exact JB_Mo_isBeaten_120 C hK5 v0 x1 x2 x4 σ _ _ _ h_v0 hH hT hS (lv_sub hl [1, 2, 3, 5] rfl) hF
  · replace hF := hF.2 hc
    refine lv_aload_n hx hb d_Mo_isBeaten_79 rfl (lv_at hl 1 rfl) ?_
    refine rs_getR C hH hT h_v0 fk_11_40 tw_939 d_Mo_isBeaten_80 (fun h51 => ?_)
    refine lv_iload hx hb d_Mo_isBeaten_83 (lv_at hl 5 rfl) ?_
    obtain ⟨g52, hF⟩ := hF
    refine rs_zald C hH h51 g52 d_Mo_isBeaten_85 ?_
    refine lv_if_eq hx hb d_Mo_isBeaten_86 (tgt := 124) rfl (fun hc => ?_) (fun hc => ?_)
    · replace hF := hF.1 hc
      exact JB_Mo_isBeaten_124 C hK5 v0 x1 x2 x4 σ _ _ _ h_v0 hH hT hS (lv_sub hl [1, 2, 3, 5] rfl) hF
    · replace hF := hF.2 hc
      refine lv_aload_n hx hb d_Mo_isBeaten_89 rfl (lv_at hl 1 rfl) ?_
      refine lv_bipush hx hb d_Mo_isBeaten_90 kb_12 ?_
      refine lv_iload_n hx hb d_Mo_isBeaten_92 rfl (lv_at hl 2 rfl) ?_
      refine lv_imul hx hb d_Mo_isBeaten_93 ?_
      refine lv_iload_n hx hb d_Mo_isBeaten_94 rfl (lv_at hl 3 rfl) ?_
      refine lv_iadd hx hb d_Mo_isBeaten_95 ?_
      refine rs_ci (rs_runV C hH hT hl (J_Mo_firstOf l h_v0 hF) rc_Mo_firstOf tw_1075 tw_1077 ts_42 h_v0 ⟨rfl, by decide, by decide⟩ rfl ⟨⟨rfl, rfl⟩, by decide, by decide, by decide⟩ (Nat.le_of_ble_eq_true rfl) rfl d_Mo_isBeaten_96) hS (fun x54 σ53 H locs hH hT hS hF => ?_)
      refine lv_aload_n hx hb d_Mo_isBeaten_99 rfl (lv_at hl 1 rfl) ?_
      refine lv_bipush hx hb d_Mo_isBeaten_100 kb_12 ?_
      refine lv_iload hx hb d_Mo_isBeaten_102 (lv_at hl 5 rfl) ?_
      refine lv_imul hx hb d_Mo_isBeaten_104 ?_
      refine lv_iload_n hx hb d_Mo_isBeaten_105 rfl (lv_at hl 3 rfl) ?_
      refine lv_iadd hx hb d_Mo_isBeaten_106 ?_
      refine rs_ci (rs_runV C hH hT hl (J_Mo_firstOf l h_v0 hF) rc_Mo_firstOf tw_1075 tw_1077 ts_42 h_v0 ⟨rfl, by decide, by decide⟩ rfl ⟨⟨rfl, rfl⟩, by decide, by decide, by decide⟩ (Nat.le_of_ble_eq_true rfl) rfl d_Mo_isBeaten_107) hS (fun x56 σ55 H locs hH hT hS hF => ?_)
      refine lv_icmp_ne hx hb d_Mo_isBeaten_110 (tgt := 124) rfl (fun hc => ?_) (fun hc => ?_)
      · replace hF := hF.1 hc
        exact JB_Mo_isBeaten_124 C hK5 v0 x1 x2 x4 σ55 _ _ _ h_v0 hH hT hS (lv_sub hl [1, 2, 3, 5] rfl) hF
      · replace hF := hF.2 hc
        refine lv_iload hx hb d_Mo_isBeaten_113 (lv_at hl 0 rfl) ?_
        refine lv_iload hx hb d_Mo_isBeaten_115 (lv_at hl 6 rfl) ?_
        refine lv_icmp_ge hx hb d_Mo_isBeaten_117 (tgt := 124) rfl (fun hc => ?_) (fun hc => ?_)
        · replace hF := hF.1 hc
          exact JB_Mo_isBeaten_124 C hK5 v0 x1 x2 x4 σ55 _ _ _ h_v0 hH hT hS (lv_sub hl [1, 2, 3, 5] rfl) hF
        · replace hF := hF.2 hc
          exact JB_Mo_isBeaten_120 C hK5 v0 x1 x2 x4 σ55 _ _ _ h_v0 hH hT hS (lv_sub hl [1, 2, 3, 5] rfl) hF
set_option maxRecDepth 20000 in
theorem JB_Mo_isBeaten_40 {p : Program} {l : Launch} {e : Env} {s : State} {m : MethodId} {args : Array Value} {below : List Frame} {meth : Method} {c : Code} {G : rs_G} {Bm : Nat} {S : rs_Shp} {K5 : Nat → Int32 → Int32 → Int32 → Int32 → rs_Mem → Prop} {Q : Int32 → rs_Mem → Prop} (C : rs_C "RouteSpeakerModel" prog_12_method_51_code 7 (some .boolean) G p s m meth c args) (hK5 : ∀ (v0 : Nat) (x1 : Int32) (x2 : Int32) (x3 : Int32) (x4 : Int32) (σ : rs_Mem) (H : Heap) (locs : List Loc) (ls : Array Slot), rs_Ok S 11 v0 → rs_H G Bm S σ H → rs_T S σ → va_S (rs_A Bm) s.heap H locs → lv_has ls 7 [(0, .ref (Bm + v0)), (1, .int x1), (2, .int x2), (3, .int x3), (4, .int x4)] → K5 v0 x1 x2 x3 x4 σ → W p l e { frames := 1, cells := 0, slots := 0, locals := 21 } s m args below meth c H locs 0 0 (MQ below (rs_Qi G Bm S Q) args s 0 0 (rs_A Bm)) (F0 m 5 ls [])) (v0 : Nat) (x1 : Int32) (x2 : Int32) (x3 : Int32) (x4 : Int32) (y0 : Int32) (σ : rs_Mem) (H : Heap) (locs : List Loc) (ls : Array Slot) (h_v0 : rs_Ok S 11 v0) (hH : rs_H G Bm S σ H) (hT : rs_T S σ) (hS : va_S (rs_A Bm) s.heap H locs) (hl : lv_has ls 7 [(0, .ref (Bm + v0)), (1, .int x1), (2, .int x2), (3, .int x3), (4, .int x4)]) (hF : B_Mo_isBeaten_40 S.2.2 K5 Q v0 x1 x2 x3 x4 y0 σ) :
    W p l e { frames := 1, cells := 0, slots := 0, locals := 21 } s m args below meth c H locs 0 0 (MQ below (rs_Qi G Bm S Q) args s 0 0 (rs_A Bm)) (F0 m 40 ls [.int y0]) := by
  have hx := C.1
  have hb := C.2.1
  unfold B_Mo_isBeaten_40 at hF
  refine lv_istore hx hb d_Mo_isBeaten_40 hl (by decide) (lv' := [(5, .int y0), (0, .ref (Bm + v0)), (1, .int x1), (2, .int x2), (3, .int x3), (4, .int x4)]) rfl (fun ls hl => ?_)
  refine lv_aload_n hx hb d_Mo_isBeaten_42 rfl (lv_at hl 1 rfl) ?_
  refine rs_getR C hH hT h_v0 fk_11_29 tw_928 d_Mo_isBeaten_43 (fun h51 => ?_)
  refine lv_bipush hx hb d_Mo_isBeaten_46 kb_12 ?_
  refine lv_iload hx hb d_Mo_isBeaten_48 (lv_at hl 5 rfl) ?_
  refine lv_imul hx hb d_Mo_isBeaten_50 ?_
  refine lv_iload_n hx hb d_Mo_isBeaten_51 rfl (lv_at hl 3 rfl) ?_
  refine lv_iadd hx hb d_Mo_isBeaten_52 ?_
  obtain ⟨g52, hF⟩ := hF
  refine rs_iald C hH h51 g52 d_Mo_isBeaten_53 ?_
  refine lv_if_ge hx hb d_Mo_isBeaten_54 (tgt := 61) rfl (fun hc => ?_) (fun hc => ?_)
  · replace hF := hF.1 hc
    refine lv_aload_n hx hb d_Mo_isBeaten_61 rfl (lv_at hl 1 rfl) ?_
    refine rs_getR C hH hT h_v0 fk_11_29 tw_928 d_Mo_isBeaten_62 (fun h53 => ?_)
    refine lv_bipush hx hb d_Mo_isBeaten_65 kb_12 ?_
    refine lv_iload hx hb d_Mo_isBeaten_67 (lv_at hl 5 rfl) ?_
    refine lv_imul hx hb d_Mo_isBeaten_69 ?_
    refine lv_iload_n hx hb d_Mo_isBeaten_70 rfl (lv_at hl 3 rfl) ?_
    refine lv_iadd hx hb d_Mo_isBeaten_71 ?_
    obtain ⟨g54, hF⟩ := hF
    refine rs_iald C hH h53 g54 d_Mo_isBeaten_72 ?_
    exact JB_Mo_isBeaten_73 C hK5 v0 x1 x2 x3 x4 y0 (rs_I σ (rs_R σ v0 29) (((12 : Int32) * x4) + x2).toNatClampNeg) σ _ _ _ h_v0 hH hT hS (lv_sub hl [1, 2, 3, 4, 5, 0] rfl) hF
  · replace hF := hF.2 hc
    refine lv_iconst hx hb d_Mo_isBeaten_57 ki_0 ?_
    refine lv_goto hx hb d_Mo_isBeaten_58 (tgt := 73) rfl ?_
    exact JB_Mo_isBeaten_73 C hK5 v0 x1 x2 x3 x4 y0 (0 : Int32) σ _ _ _ h_v0 hH hT hS (lv_sub hl [1, 2, 3, 4, 5, 0] rfl) hF
set_option maxRecDepth 20000 in
theorem JL_Mo_isBeaten_5 {p : Program} {l : Launch} {e : Env} {s : State} {m : MethodId} {args : Array Value} {below : List Frame} {meth : Method} {c : Code} {G : rs_G} {Bm : Nat} {S : rs_Shp} {Q : Int32 → rs_Mem → Prop} (C : rs_C "RouteSpeakerModel" prog_12_method_51_code 7 (some .boolean) G p s m meth c args) : ∀ n : Nat, ∀ (v0 : Nat) (x1 : Int32) (x2 : Int32) (x3 : Int32) (x4 : Int32) (σ : rs_Mem) (H : Heap) (locs : List Loc) (ls : Array Slot), rs_Ok S 11 v0 → rs_H G Bm S σ H → rs_T S σ → va_S (rs_A Bm) s.heap H locs → lv_has ls 7 [(0, .ref (Bm + v0)), (1, .int x1), (2, .int x2), (3, .int x3), (4, .int x4)] → (L_Mo_isBeaten_5 S.2.2 Q n) v0 x1 x2 x3 x4 σ → W p l e { frames := 1, cells := 0, slots := 0, locals := 21 } s m args below meth c H locs 0 0 (MQ below (rs_Qi G Bm S Q) args s 0 0 (rs_A Bm)) (F0 m 5 ls []) := by
  have hx := C.1
  have hb := C.2.1
  intro n
  induction n with
  | zero => intros; rename_i hF; exact hF.elim
  | succ n hK5 =>
    intro v0 x1 x2 x3 x4 σ H locs ls h_v0 hH hT hS hl hF
    replace hF : G_Mo_isBeaten_5 S.2.2 Q (L_Mo_isBeaten_5 S.2.2 Q n) v0 x1 x2 x3 x4 σ := hF
    unfold G_Mo_isBeaten_5 at hF
    refine lv_iload hx hb d_Mo_isBeaten_5 (lv_at hl 4 rfl) ?_
    refine lv_iconst hx hb d_Mo_isBeaten_7 ki_5 ?_
    refine lv_icmp_ge hx hb d_Mo_isBeaten_8 (tgt := 132) rfl (fun hc => ?_) (fun hc => ?_)
    · replace hF := hF.1 hc
      refine lv_iload_n hx hb d_Mo_isBeaten_132 rfl (lv_at hl 3 rfl) ?_
      exact rs_zret C hH hT hS hF.1 hF.2 d_Mo_isBeaten_133
    · replace hF := hF.2 hc
      refine lv_aload_n hx hb d_Mo_isBeaten_11 rfl (lv_at hl 0 rfl) ?_
      refine rs_getR C hH hT h_v0 fk_11_29 tw_928 d_Mo_isBeaten_12 (fun h51 => ?_)
      refine lv_bipush hx hb d_Mo_isBeaten_15 kb_12 ?_
      refine lv_iload_n hx hb d_Mo_isBeaten_17 rfl (lv_at hl 1 rfl) ?_
      refine lv_imul hx hb d_Mo_isBeaten_18 ?_
      refine lv_iload_n hx hb d_Mo_isBeaten_19 rfl (lv_at hl 2 rfl) ?_
      refine lv_iadd hx hb d_Mo_isBeaten_20 ?_
      obtain ⟨g52, hF⟩ := hF
      refine rs_iald C hH h51 g52 d_Mo_isBeaten_21 ?_
      refine lv_if_ge hx hb d_Mo_isBeaten_22 (tgt := 29) rfl (fun hc => ?_) (fun hc => ?_)
      · replace hF := hF.1 hc
        refine lv_aload_n hx hb d_Mo_isBeaten_29 rfl (lv_at hl 0 rfl) ?_
        refine rs_getR C hH hT h_v0 fk_11_29 tw_928 d_Mo_isBeaten_30 (fun h53 => ?_)
        refine lv_bipush hx hb d_Mo_isBeaten_33 kb_12 ?_
        refine lv_iload_n hx hb d_Mo_isBeaten_35 rfl (lv_at hl 1 rfl) ?_
        refine lv_imul hx hb d_Mo_isBeaten_36 ?_
        refine lv_iload_n hx hb d_Mo_isBeaten_37 rfl (lv_at hl 2 rfl) ?_
        refine lv_iadd hx hb d_Mo_isBeaten_38 ?_
        obtain ⟨g54, hF⟩ := hF
        refine rs_iald C hH h53 g54 d_Mo_isBeaten_39 ?_
        exact JB_Mo_isBeaten_40 C hK5 v0 x1 x2 x3 x4 (rs_I σ (rs_R σ v0 29) (((12 : Int32) * x1) + x2).toNatClampNeg) σ _ _ _ h_v0 hH hT hS (lv_sub hl [0, 1, 2, 3, 4] rfl) hF
      · replace hF := hF.2 hc
        refine lv_iconst hx hb d_Mo_isBeaten_25 ki_0 ?_
        refine lv_goto hx hb d_Mo_isBeaten_26 (tgt := 40) rfl ?_
        exact JB_Mo_isBeaten_40 C hK5 v0 x1 x2 x3 x4 (0 : Int32) σ _ _ _ h_v0 hH hT hS (lv_sub hl [0, 1, 2, 3, 4] rfl) hF
abbrev y_Mo_isBeaten : MethodName := ({ cls := "RouteSpeakerModel", name := "isBeaten", desc := "(II)Z" } : Jvm.MethodName)
theorem rc_Mo_isBeaten : rs_Cal y_Mo_isBeaten prog_12_method_51_code 7 (some .boolean) 2 := ⟨tw_1074, tw_11, by decide, by decide, by decide +kernel⟩
set_option maxRecDepth 20000 in
theorem J_Mo_isBeaten (l : Launch) {G : rs_G} {Bm : Nat} {S : rs_Shp} {v0 : Nat} {x1 : Int32} {x2 : Int32} {σ : rs_Mem} {Q : Int32 → rs_Mem → Prop} (h_v0 : rs_Ok S 11 v0) (hF : F_Mo_isBeaten S.2.2 v0 x1 x2 σ Q) :
    Met l y_Mo_isBeaten (rs_ws y_Mo_isBeaten prog_12_method_51_code 7 (some .boolean)) { frames := 1, cells := 0, slots := 0, locals := 21 } (rs_P G Bm S σ [.ref (Bm + v0), .int x1, .int x2]) (rs_Qi G Bm S Q) 0 0 (rs_A Bm) := by
  refine rs_met (own := "RouteSpeakerModel") (by decide) rfl (Nat.le_of_ble_eq_true rfl) (fun p e s m below meth c ls C hl hH hT hS => ?_)
  replace hl : lv_has ls 7 [(0, .ref (Bm + v0)), (1, .int x1), (2, .int x2)] := hl
  have hx := C.1
  have hb := C.2.1
  unfold F_Mo_isBeaten at hF
  refine lv_iconst hx hb d_Mo_isBeaten_0 ki_0 ?_
  refine lv_istore_n hx hb d_Mo_isBeaten_1 rfl hl (by decide) (lv' := [(3, .int (0 : Int32)), (0, .ref (Bm + v0)), (1, .int x1), (2, .int x2)]) rfl (fun ls hl => ?_)
  refine lv_iconst hx hb d_Mo_isBeaten_2 ki_0 ?_
  refine lv_istore hx hb d_Mo_isBeaten_3 hl (by decide) (lv' := [(4, .int (0 : Int32)), (3, .int (0 : Int32)), (0, .ref (Bm + v0)), (1, .int x1), (2, .int x2)]) rfl (fun ls hl => ?_)
  obtain ⟨n, hF⟩ := hF
  exact JL_Mo_isBeaten_5 C n v0 x1 x2 (0 : Int32) (0 : Int32) σ _ _ _ h_v0 hH hT hS (lv_sub hl [2, 3, 4, 1, 0] rfl) hF
/-! RouteSpeakerModel.dropBeaten(I)V -/
theorem d_Mo_dropBeaten_0 : decode prog_12_method_52_code 0 = .ok (.iconst 0, 1) := by decide +kernel
theorem d_Mo_dropBeaten_1 : decode prog_12_method_52_code 1 = .ok (.istore_n 2, 1) := by decide +kernel
theorem d_Mo_dropBeaten_2 : decode prog_12_method_52_code 2 = .ok (.iconst 0, 1) := by decide +kernel
theorem d_Mo_dropBeaten_3 : decode prog_12_method_52_code 3 = .ok (.istore_n 3, 1) := by decide +kernel
theorem d_Mo_dropBeaten_4 : decode prog_12_method_52_code 4 = .ok (.iload_n 3, 1) := by decide +kernel
theorem d_Mo_dropBeaten_5 : decode prog_12_method_52_code 5 = .ok (.iconst 5, 1) := by decide +kernel
theorem d_Mo_dropBeaten_6 : decode prog_12_method_52_code 6 = .ok (.if_icmp .ge (37), 3) := by decide +kernel
theorem d_Mo_dropBeaten_9 : decode prog_12_method_52_code 9 = .ok (.iload_n 2, 1) := by decide +kernel
theorem d_Mo_dropBeaten_10 : decode prog_12_method_52_code 10 = .ok (.aload_n 0, 1) := by decide +kernel
theorem d_Mo_dropBeaten_11 : decode prog_12_method_52_code 11 = .ok (.getfield 123, 3) := by decide +kernel
theorem d_Mo_dropBeaten_14 : decode prog_12_method_52_code 14 = .ok (.iload_n 3, 1) := by decide +kernel
theorem d_Mo_dropBeaten_15 : decode prog_12_method_52_code 15 = .ok (.baload, 1) := by decide +kernel
theorem d_Mo_dropBeaten_16 : decode prog_12_method_52_code 16 = .ok (.ifCond .eq (18), 3) := by decide +kernel
theorem d_Mo_dropBeaten_19 : decode prog_12_method_52_code 19 = .ok (.aload_n 0, 1) := by decide +kernel
theorem d_Mo_dropBeaten_20 : decode prog_12_method_52_code 20 = .ok (.iload_n 3, 1) := by decide +kernel
theorem d_Mo_dropBeaten_21 : decode prog_12_method_52_code 21 = .ok (.iload_n 1, 1) := by decide +kernel
theorem d_Mo_dropBeaten_22 : decode prog_12_method_52_code 22 = .ok (.invokevirtual 265, 3) := by decide +kernel
theorem d_Mo_dropBeaten_25 : decode prog_12_method_52_code 25 = .ok (.ifCond .eq (9), 3) := by decide +kernel
theorem d_Mo_dropBeaten_28 : decode prog_12_method_52_code 28 = .ok (.iconst 1, 1) := by decide +kernel
theorem d_Mo_dropBeaten_29 : decode prog_12_method_52_code 29 = .ok (.iload_n 3, 1) := by decide +kernel
theorem d_Mo_dropBeaten_30 : decode prog_12_method_52_code 30 = .ok (.ishl, 1) := by decide +kernel
theorem d_Mo_dropBeaten_31 : decode prog_12_method_52_code 31 = .ok (.goto (4), 3) := by decide +kernel
theorem d_Mo_dropBeaten_34 : decode prog_12_method_52_code 34 = .ok (.iconst 0, 1) := by decide +kernel
theorem d_Mo_dropBeaten_35 : decode prog_12_method_52_code 35 = .ok (.iadd, 1) := by decide +kernel
theorem d_Mo_dropBeaten_36 : decode prog_12_method_52_code 36 = .ok (.istore_n 2, 1) := by decide +kernel
theorem d_Mo_dropBeaten_37 : decode prog_12_method_52_code 37 = .ok (.iinc 3 (1), 3) := by decide +kernel
theorem d_Mo_dropBeaten_40 : decode prog_12_method_52_code 40 = .ok (.goto (-36), 3) := by decide +kernel
theorem d_Mo_dropBeaten_43 : decode prog_12_method_52_code 43 = .ok (.iconst 0, 1) := by decide +kernel
theorem d_Mo_dropBeaten_44 : decode prog_12_method_52_code 44 = .ok (.istore_n 3, 1) := by decide +kernel
theorem d_Mo_dropBeaten_45 : decode prog_12_method_52_code 45 = .ok (.iload_n 3, 1) := by decide +kernel
theorem d_Mo_dropBeaten_46 : decode prog_12_method_52_code 46 = .ok (.iconst 5, 1) := by decide +kernel
theorem d_Mo_dropBeaten_47 : decode prog_12_method_52_code 47 = .ok (.if_icmp .ge (37), 3) := by decide +kernel
theorem d_Mo_dropBeaten_50 : decode prog_12_method_52_code 50 = .ok (.aload_n 0, 1) := by decide +kernel
theorem d_Mo_dropBeaten_51 : decode prog_12_method_52_code 51 = .ok (.getfield 123, 3) := by decide +kernel
theorem d_Mo_dropBeaten_54 : decode prog_12_method_52_code 54 = .ok (.iload_n 3, 1) := by decide +kernel
theorem d_Mo_dropBeaten_55 : decode prog_12_method_52_code 55 = .ok (.aload_n 0, 1) := by decide +kernel
theorem d_Mo_dropBeaten_56 : decode prog_12_method_52_code 56 = .ok (.getfield 123, 3) := by decide +kernel
theorem d_Mo_dropBeaten_59 : decode prog_12_method_52_code 59 = .ok (.iload_n 3, 1) := by decide +kernel
theorem d_Mo_dropBeaten_60 : decode prog_12_method_52_code 60 = .ok (.baload, 1) := by decide +kernel
theorem d_Mo_dropBeaten_61 : decode prog_12_method_52_code 61 = .ok (.ifCond .eq (15), 3) := by decide +kernel
theorem d_Mo_dropBeaten_64 : decode prog_12_method_52_code 64 = .ok (.iload_n 2, 1) := by decide +kernel
theorem d_Mo_dropBeaten_65 : decode prog_12_method_52_code 65 = .ok (.iload_n 3, 1) := by decide +kernel
theorem d_Mo_dropBeaten_66 : decode prog_12_method_52_code 66 = .ok (.ishr, 1) := by decide +kernel
theorem d_Mo_dropBeaten_67 : decode prog_12_method_52_code 67 = .ok (.iconst 1, 1) := by decide +kernel
theorem d_Mo_dropBeaten_68 : decode prog_12_method_52_code 68 = .ok (.iand, 1) := by decide +kernel
theorem d_Mo_dropBeaten_69 : decode prog_12_method_52_code 69 = .ok (.ifCond .ne (7), 3) := by decide +kernel
theorem d_Mo_dropBeaten_72 : decode prog_12_method_52_code 72 = .ok (.iconst 1, 1) := by decide +kernel
theorem d_Mo_dropBeaten_73 : decode prog_12_method_52_code 73 = .ok (.goto (4), 3) := by decide +kernel
theorem d_Mo_dropBeaten_76 : decode prog_12_method_52_code 76 = .ok (.iconst 0, 1) := by decide +kernel
theorem d_Mo_dropBeaten_77 : decode prog_12_method_52_code 77 = .ok (.bastore, 1) := by decide +kernel
theorem d_Mo_dropBeaten_78 : decode prog_12_method_52_code 78 = .ok (.iinc 3 (1), 3) := by decide +kernel
theorem d_Mo_dropBeaten_81 : decode prog_12_method_52_code 81 = .ok (.goto (-36), 3) := by decide +kernel
theorem d_Mo_dropBeaten_84 : decode prog_12_method_52_code 84 = .ok (.return_, 1) := by decide +kernel
def B_Mo_dropBeaten_35 (N : Nat → Nat) (K4 : Nat → Int32 → Int32 → Int32 → rs_Mem → Prop) (Q : rs_Mem → Prop) (v0 : Nat) (x1 : Int32) (x3 : Int32) (y0 : Int32) (y1 : Int32) (σ : rs_Mem) : Prop :=
  (∀ x51 : Int32, x51 = (y0 + y1) → (∀ x52 : Int32, x52 = x3 + (1 : Int32) → (K4 v0 x1 x51 x52 σ)))
def B_Mo_dropBeaten_34 (N : Nat → Nat) (K4 : Nat → Int32 → Int32 → Int32 → rs_Mem → Prop) (Q : rs_Mem → Prop) (v0 : Nat) (x1 : Int32) (x3 : Int32) (y0 : Int32) (σ : rs_Mem) : Prop :=
  (B_Mo_dropBeaten_35 N K4 Q v0 x1 x3 y0 (0 : Int32) σ)
def B_Mo_dropBeaten_76 (N : Nat → Nat) (K45 : Nat → Int32 → Int32 → rs_Mem → Prop) (Q : rs_Mem → Prop) (v0 : Nat) (x2 : Int32) (x3 : Int32) (w0 : Nat) (y1 : Int32) (σ : rs_Mem) : Prop :=
  (vp_in y1 (N w0) ∧ ∀ σ52 : rs_Mem, σ52 = rs_sI σ w0 y1.toNatClampNeg (0 : Int32) → (∀ x53 : Int32, x53 = x3 + (1 : Int32) → (K45 v0 x2 x53 σ52)))
def G_Mo_dropBeaten_45 (N : Nat → Nat) (Q : rs_Mem → Prop) (K45 : Nat → Int32 → Int32 → rs_Mem → Prop) (v0 : Nat) (x2 : Int32) (x3 : Int32) (σ : rs_Mem) : Prop :=
  (((5 : Int32) ≤ x3 → (Q σ)) ∧ (¬ ((5 : Int32) ≤ x3) → (vp_in x3 (N (rs_R σ v0 40)) ∧ (((rs_I σ (rs_R σ v0 40) x3.toNatClampNeg) = 0 → (B_Mo_dropBeaten_76 N K45 Q v0 x2 x3 (rs_R σ v0 40) x3 σ)) ∧ (¬ ((rs_I σ (rs_R σ v0 40) x3.toNatClampNeg) = 0) → ((¬ (((x2 >>> (x3 &&& 31)) &&& (1 : Int32)) = 0) → (B_Mo_dropBeaten_76 N K45 Q v0 x2 x3 (rs_R σ v0 40) x3 σ)) ∧ (((x2 >>> (x3 &&& 31)) &&& (1 : Int32)) = 0 → (vp_in x3 (N (rs_R σ v0 40)) ∧ ∀ σ55 : rs_Mem, σ55 = rs_sI σ (rs_R σ v0 40) x3.toNatClampNeg (1 : Int32) → (∀ x56 : Int32, x56 = x3 + (1 : Int32) → (K45 v0 x2 x56 σ55))))))))))
noncomputable def L_Mo_dropBeaten_45 (N : Nat → Nat) (Q : rs_Mem → Prop) (n : Nat) : Nat → Int32 → Int32 → rs_Mem → Prop := Nat.rec (motive := fun _ => Nat → Int32 → Int32 → rs_Mem → Prop) (fun _ _ _ _ => False) (fun _ K => G_Mo_dropBeaten_45 N Q K) n
def G_Mo_dropBeaten_4 (N : Nat → Nat) (Q : rs_Mem → Prop) (K4 : Nat → Int32 → Int32 → Int32 → rs_Mem → Prop) (v0 : Nat) (x1 : Int32) (x2 : Int32) (x3 : Int32) (σ : rs_Mem) : Prop :=
  (((5 : Int32) ≤ x3 → (∃ n : Nat, L_Mo_dropBeaten_45 N Q n v0 x2 (0 : Int32) σ)) ∧ (¬ ((5 : Int32) ≤ x3) → (vp_in x3 (N (rs_R σ v0 40)) ∧ (((rs_I σ (rs_R σ v0 40) x3.toNatClampNeg) = 0 → (B_Mo_dropBeaten_34 N K4 Q v0 x1 x3 x2 σ)) ∧ (¬ ((rs_I σ (rs_R σ v0 40) x3.toNatClampNeg) = 0) → (F_Mo_isBeaten N v0 x3 x1 σ (fun x54 σ53 => ((x54 = 0 → (B_Mo_dropBeaten_34 N K4 Q v0 x1 x3 x2 σ53)) ∧ (¬ (x54 = 0) → (B_Mo_dropBeaten_35 N K4 Q v0 x1 x3 x2 ((1 : Int32) <<< (x3 &&& 31)) σ53))))))))))
noncomputable def L_Mo_dropBeaten_4 (N : Nat → Nat) (Q : rs_Mem → Prop) (n : Nat) : Nat → Int32 → Int32 → Int32 → rs_Mem → Prop := Nat.rec (motive := fun _ => Nat → Int32 → Int32 → Int32 → rs_Mem → Prop) (fun _ _ _ _ _ => False) (fun _ K => G_Mo_dropBeaten_4 N Q K) n
def F_Mo_dropBeaten (N : Nat → Nat) (v0 : Nat) (x1 : Int32) (σ : rs_Mem) (Q : rs_Mem → Prop) : Prop :=
  (∃ n : Nat, L_Mo_dropBeaten_4 N Q n v0 x1 (0 : Int32) (0 : Int32) σ)
set_option maxRecDepth 20000 in
theorem JB_Mo_dropBeaten_35 {p : Program} {l : Launch} {e : Env} {s : State} {m : MethodId} {args : Array Value} {below : List Frame} {meth : Method} {c : Code} {G : rs_G} {Bm : Nat} {S : rs_Shp} {K4 : Nat → Int32 → Int32 → Int32 → rs_Mem → Prop} {Q : rs_Mem → Prop} (C : rs_C "RouteSpeakerModel" prog_12_method_52_code 4 none G p s m meth c args) (hK4 : ∀ (v0 : Nat) (x1 : Int32) (x2 : Int32) (x3 : Int32) (σ : rs_Mem) (H : Heap) (locs : List Loc) (ls : Array Slot), rs_Ok S 11 v0 → rs_H G Bm S σ H → rs_T S σ → va_S (rs_A Bm) s.heap H locs → lv_has ls 4 [(0, .ref (Bm + v0)), (1, .int x1), (2, .int x2), (3, .int x3)] → K4 v0 x1 x2 x3 σ → W p l e { frames := 2, cells := 0, slots := 0, locals := 47 } s m args below meth c H locs 0 0 (MQ below (rs_Qv G Bm S Q) args s 0 0 (rs_A Bm)) (F0 m 4 ls [])) (v0 : Nat) (x1 : Int32) (x3 : Int32) (y0 : Int32) (y1 : Int32) (σ : rs_Mem) (H : Heap) (locs : List Loc) (ls : Array Slot) (h_v0 : rs_Ok S 11 v0) (hH : rs_H G Bm S σ H) (hT : rs_T S σ) (hS : va_S (rs_A Bm) s.heap H locs) (hl : lv_has ls 4 [(0, .ref (Bm + v0)), (1, .int x1), (3, .int x3)]) (hF : B_Mo_dropBeaten_35 S.2.2 K4 Q v0 x1 x3 y0 y1 σ) :
    W p l e { frames := 2, cells := 0, slots := 0, locals := 47 } s m args below meth c H locs 0 0 (MQ below (rs_Qv G Bm S Q) args s 0 0 (rs_A Bm)) (F0 m 35 ls [.int y1, .int y0]) := by
  have hx := C.1
  have hb := C.2.1
  unfold B_Mo_dropBeaten_35 at hF
  refine lv_iadd hx hb d_Mo_dropBeaten_35 ?_
  refine lv_topi (fun x51 ex51 => ?_)
  replace hF := hF x51 ex51
  refine lv_istore_n hx hb d_Mo_dropBeaten_36 rfl hl (by decide) (lv' := [(2, .int x51), (0, .ref (Bm + v0)), (1, .int x1), (3, .int x3)]) rfl (fun ls hl => ?_)
  obtain ⟨x52, ex52⟩ : ∃ z : Int32, z = x3 + (1 : Int32) := ⟨_, rfl⟩
  replace hF := hF x52 ex52
  refine lv_iinc hx hb d_Mo_dropBeaten_37 hl (k := 3) rfl (v := x52) (by rw [ki_1, ex52]) (by decide) (lv' := [(3, .int x52), (2, .int x51), (0, .ref (Bm + v0)), (1, .int x1)]) rfl (fun ls hl => ?_)
  refine lv_goto hx hb d_Mo_dropBeaten_40 (tgt := 4) rfl ?_
  exact hK4 v0 x1 x51 x52 σ _ _ _ h_v0 hH hT hS (lv_sub hl [2, 3, 1, 0] rfl) hF
set_option maxRecDepth 20000 in
theorem JB_Mo_dropBeaten_34 {p : Program} {l : Launch} {e : Env} {s : State} {m : MethodId} {args : Array Value} {below : List Frame} {meth : Method} {c : Code} {G : rs_G} {Bm : Nat} {S : rs_Shp} {K4 : Nat → Int32 → Int32 → Int32 → rs_Mem → Prop} {Q : rs_Mem → Prop} (C : rs_C "RouteSpeakerModel" prog_12_method_52_code 4 none G p s m meth c args) (hK4 : ∀ (v0 : Nat) (x1 : Int32) (x2 : Int32) (x3 : Int32) (σ : rs_Mem) (H : Heap) (locs : List Loc) (ls : Array Slot), rs_Ok S 11 v0 → rs_H G Bm S σ H → rs_T S σ → va_S (rs_A Bm) s.heap H locs → lv_has ls 4 [(0, .ref (Bm + v0)), (1, .int x1), (2, .int x2), (3, .int x3)] → K4 v0 x1 x2 x3 σ → W p l e { frames := 2, cells := 0, slots := 0, locals := 47 } s m args below meth c H locs 0 0 (MQ below (rs_Qv G Bm S Q) args s 0 0 (rs_A Bm)) (F0 m 4 ls [])) (v0 : Nat) (x1 : Int32) (x3 : Int32) (y0 : Int32) (σ : rs_Mem) (H : Heap) (locs : List Loc) (ls : Array Slot) (h_v0 : rs_Ok S 11 v0) (hH : rs_H G Bm S σ H) (hT : rs_T S σ) (hS : va_S (rs_A Bm) s.heap H locs) (hl : lv_has ls 4 [(0, .ref (Bm + v0)), (1, .int x1), (3, .int x3)]) (hF : B_Mo_dropBeaten_34 S.2.2 K4 Q v0 x1 x3 y0 σ) :
    W p l e { frames := 2, cells := 0, slots := 0, locals := 47 } s m args below meth c H locs 0 0 (MQ below (rs_Qv G Bm S Q) args s 0 0 (rs_A Bm)) (F0 m 34 ls [.int y0]) := by
  have hx := C.1
  have hb := C.2.1
  unfold B_Mo_dropBeaten_34 at hF
  refine lv_iconst hx hb d_Mo_dropBeaten_34 ki_0 ?_
  exact JB_Mo_dropBeaten_35 C hK4 v0 x1 x3 y0 (0 : Int32) σ _ _ _ h_v0 hH hT hS (lv_sub hl [0, 1, 2] rfl) hF
set_option maxRecDepth 20000 in
theorem JB_Mo_dropBeaten_76 {p : Program} {l : Launch} {e : Env} {s : State} {m : MethodId} {args : Array Value} {below : List Frame} {meth : Method} {c : Code} {G : rs_G} {Bm : Nat} {S : rs_Shp} {K45 : Nat → Int32 → Int32 → rs_Mem → Prop} {Q : rs_Mem → Prop} (C : rs_C "RouteSpeakerModel" prog_12_method_52_code 4 none G p s m meth c args) (hK45 : ∀ (v0 : Nat) (x2 : Int32) (x3 : Int32) (σ : rs_Mem) (H : Heap) (locs : List Loc) (ls : Array Slot), rs_Ok S 11 v0 → rs_H G Bm S σ H → rs_T S σ → va_S (rs_A Bm) s.heap H locs → lv_has ls 4 [(0, .ref (Bm + v0)), (2, .int x2), (3, .int x3)] → K45 v0 x2 x3 σ → W p l e { frames := 2, cells := 0, slots := 0, locals := 47 } s m args below meth c H locs 0 0 (MQ below (rs_Qv G Bm S Q) args s 0 0 (rs_A Bm)) (F0 m 45 ls [])) (v0 : Nat) (x2 : Int32) (x3 : Int32) (w0 : Nat) (y1 : Int32) (σ : rs_Mem) (H : Heap) (locs : List Loc) (ls : Array Slot) (h_v0 : rs_Ok S 11 v0) (h_w0 : rs_Ok S 21 w0) (hH : rs_H G Bm S σ H) (hT : rs_T S σ) (hS : va_S (rs_A Bm) s.heap H locs) (hl : lv_has ls 4 [(0, .ref (Bm + v0)), (2, .int x2), (3, .int x3)]) (hF : B_Mo_dropBeaten_76 S.2.2 K45 Q v0 x2 x3 w0 y1 σ) :
    W p l e { frames := 2, cells := 0, slots := 0, locals := 47 } s m args below meth c H locs 0 0 (MQ below (rs_Qv G Bm S Q) args s 0 0 (rs_A Bm)) (F0 m 76 ls [.int y1, .ref (Bm + w0)]) := by
  have hx := C.1
  have hb := C.2.1
  unfold B_Mo_dropBeaten_76 at hF
  refine lv_iconst hx hb d_Mo_dropBeaten_76 ki_0 ?_
  obtain ⟨g51, hF⟩ := hF
  refine rs_zast C hH hT hS (by decide) h_w0 g51 d_Mo_dropBeaten_77 (fun σ52 H locs eσ52 hH hT hS => ?_)
  replace hF := hF σ52 eσ52
  obtain ⟨x53, ex53⟩ : ∃ z : Int32, z = x3 + (1 : Int32) := ⟨_, rfl⟩
  replace hF := hF x53 ex53
  refine lv_iinc hx hb d_Mo_dropBeaten_78 hl (k := 2) rfl (v := x53) (by rw [ki_1, ex53]) (by decide) (lv' := [(3, .int x53), (0, .ref (Bm + v0)), (2, .int x2)]) rfl (fun ls hl => ?_)
  refine lv_goto hx hb d_Mo_dropBeaten_81 (tgt := 45) rfl ?_
  exact hK45 v0 x2 x53 σ52 _ _ _ h_v0 hH hT hS (lv_sub hl [1, 2, 0] rfl) hF
set_option maxRecDepth 20000 in
theorem JL_Mo_dropBeaten_45 {p : Program} {l : Launch} {e : Env} {s : State} {m : MethodId} {args : Array Value} {below : List Frame} {meth : Method} {c : Code} {G : rs_G} {Bm : Nat} {S : rs_Shp} {Q : rs_Mem → Prop} (C : rs_C "RouteSpeakerModel" prog_12_method_52_code 4 none G p s m meth c args) : ∀ n : Nat, ∀ (v0 : Nat) (x2 : Int32) (x3 : Int32) (σ : rs_Mem) (H : Heap) (locs : List Loc) (ls : Array Slot), rs_Ok S 11 v0 → rs_H G Bm S σ H → rs_T S σ → va_S (rs_A Bm) s.heap H locs → lv_has ls 4 [(0, .ref (Bm + v0)), (2, .int x2), (3, .int x3)] → (L_Mo_dropBeaten_45 S.2.2 Q n) v0 x2 x3 σ → W p l e { frames := 2, cells := 0, slots := 0, locals := 47 } s m args below meth c H locs 0 0 (MQ below (rs_Qv G Bm S Q) args s 0 0 (rs_A Bm)) (F0 m 45 ls []) := by
  have hx := C.1
  have hb := C.2.1
  intro n
  induction n with
  | zero => intros; rename_i hF; exact hF.elim
  | succ n hK45 =>
    intro v0 x2 x3 σ H locs ls h_v0 hH hT hS hl hF
    replace hF : G_Mo_dropBeaten_45 S.2.2 Q (L_Mo_dropBeaten_45 S.2.2 Q n) v0 x2 x3 σ := hF
    unfold G_Mo_dropBeaten_45 at hF
    refine lv_iload_n hx hb d_Mo_dropBeaten_45 rfl (lv_at hl 2 rfl) ?_
    refine lv_iconst hx hb d_Mo_dropBeaten_46 ki_5 ?_
    refine lv_icmp_ge hx hb d_Mo_dropBeaten_47 (tgt := 84) rfl (fun hc => ?_) (fun hc => ?_)
    · replace hF := hF.1 hc
      exact rs_vret C hH hT hS hF d_Mo_dropBeaten_84
    · replace hF := hF.2 hc
      refine lv_aload_n hx hb d_Mo_dropBeaten_50 rfl (lv_at hl 0 rfl) ?_
      refine rs_getR C hH hT h_v0 fk_11_40 tw_939 d_Mo_dropBeaten_51 (fun h51 => ?_)
      refine lv_iload_n hx hb d_Mo_dropBeaten_54 rfl (lv_at hl 2 rfl) ?_
      refine lv_aload_n hx hb d_Mo_dropBeaten_55 rfl (lv_at hl 0 rfl) ?_
      refine rs_getR C hH hT h_v0 fk_11_40 tw_939 d_Mo_dropBeaten_56 (fun h52 => ?_)
      refine lv_iload_n hx hb d_Mo_dropBeaten_59 rfl (lv_at hl 2 rfl) ?_
      obtain ⟨g53, hF⟩ := hF
      refine rs_zald C hH h52 g53 d_Mo_dropBeaten_60 ?_
      refine lv_if_eq hx hb d_Mo_dropBeaten_61 (tgt := 76) rfl (fun hc => ?_) (fun hc => ?_)
      · replace hF := hF.1 hc
        exact JB_Mo_dropBeaten_76 C hK45 v0 x2 x3 (rs_R σ v0 40) x3 σ _ _ _ h_v0 h51 hH hT hS (lv_sub hl [0, 1, 2] rfl) hF
      · replace hF := hF.2 hc
        refine lv_iload_n hx hb d_Mo_dropBeaten_64 rfl (lv_at hl 1 rfl) ?_
        refine lv_iload_n hx hb d_Mo_dropBeaten_65 rfl (lv_at hl 2 rfl) ?_
        refine lv_ishr hx hb d_Mo_dropBeaten_66 ?_
        refine lv_iconst hx hb d_Mo_dropBeaten_67 ki_1 ?_
        refine lv_iand hx hb d_Mo_dropBeaten_68 ?_
        refine lv_if_ne hx hb d_Mo_dropBeaten_69 (tgt := 76) rfl (fun hc => ?_) (fun hc => ?_)
        · replace hF := hF.1 hc
          exact JB_Mo_dropBeaten_76 C hK45 v0 x2 x3 (rs_R σ v0 40) x3 σ _ _ _ h_v0 h51 hH hT hS (lv_sub hl [0, 1, 2] rfl) hF
        · replace hF := hF.2 hc
          refine lv_iconst hx hb d_Mo_dropBeaten_72 ki_1 ?_
          refine lv_goto hx hb d_Mo_dropBeaten_73 (tgt := 77) rfl ?_
          obtain ⟨g54, hF⟩ := hF
          refine rs_zast C hH hT hS (by decide) h51 g54 d_Mo_dropBeaten_77 (fun σ55 H locs eσ55 hH hT hS => ?_)
          replace hF := hF σ55 eσ55
          obtain ⟨x56, ex56⟩ : ∃ z : Int32, z = x3 + (1 : Int32) := ⟨_, rfl⟩
          replace hF := hF x56 ex56
          refine lv_iinc hx hb d_Mo_dropBeaten_78 hl (k := 2) rfl (v := x56) (by rw [ki_1, ex56]) (by decide) (lv' := [(3, .int x56), (0, .ref (Bm + v0)), (2, .int x2)]) rfl (fun ls hl => ?_)
          refine lv_goto hx hb d_Mo_dropBeaten_81 (tgt := 45) rfl ?_
          exact hK45 v0 x2 x56 σ55 _ _ _ h_v0 hH hT hS (lv_sub hl [1, 2, 0] rfl) hF
set_option maxRecDepth 20000 in
theorem JL_Mo_dropBeaten_4 {p : Program} {l : Launch} {e : Env} {s : State} {m : MethodId} {args : Array Value} {below : List Frame} {meth : Method} {c : Code} {G : rs_G} {Bm : Nat} {S : rs_Shp} {Q : rs_Mem → Prop} (C : rs_C "RouteSpeakerModel" prog_12_method_52_code 4 none G p s m meth c args) : ∀ n : Nat, ∀ (v0 : Nat) (x1 : Int32) (x2 : Int32) (x3 : Int32) (σ : rs_Mem) (H : Heap) (locs : List Loc) (ls : Array Slot), rs_Ok S 11 v0 → rs_H G Bm S σ H → rs_T S σ → va_S (rs_A Bm) s.heap H locs → lv_has ls 4 [(0, .ref (Bm + v0)), (1, .int x1), (2, .int x2), (3, .int x3)] → (L_Mo_dropBeaten_4 S.2.2 Q n) v0 x1 x2 x3 σ → W p l e { frames := 2, cells := 0, slots := 0, locals := 47 } s m args below meth c H locs 0 0 (MQ below (rs_Qv G Bm S Q) args s 0 0 (rs_A Bm)) (F0 m 4 ls []) := by
  have hx := C.1
  have hb := C.2.1
  intro n
  induction n with
  | zero => intros; rename_i hF; exact hF.elim
  | succ n hK4 =>
    intro v0 x1 x2 x3 σ H locs ls h_v0 hH hT hS hl hF
    replace hF : G_Mo_dropBeaten_4 S.2.2 Q (L_Mo_dropBeaten_4 S.2.2 Q n) v0 x1 x2 x3 σ := hF
    unfold G_Mo_dropBeaten_4 at hF
    refine lv_iload_n hx hb d_Mo_dropBeaten_4 rfl (lv_at hl 3 rfl) ?_
    refine lv_iconst hx hb d_Mo_dropBeaten_5 ki_5 ?_
    refine lv_icmp_ge hx hb d_Mo_dropBeaten_6 (tgt := 43) rfl (fun hc => ?_) (fun hc => ?_)
    · replace hF := hF.1 hc
      refine lv_iconst hx hb d_Mo_dropBeaten_43 ki_0 ?_
      refine lv_istore_n hx hb d_Mo_dropBeaten_44 rfl hl (by decide) (lv' := [(3, .int (0 : Int32)), (0, .ref (Bm + v0)), (1, .int x1), (2, .int x2)]) rfl (fun ls hl => ?_)
      obtain ⟨n, hF⟩ := hF
      exact JL_Mo_dropBeaten_45 C n v0 x2 (0 : Int32) σ _ _ _ h_v0 hH hT hS (lv_sub hl [1, 3, 0] rfl) hF
    · replace hF := hF.2 hc
      refine lv_iload_n hx hb d_Mo_dropBeaten_9 rfl (lv_at hl 2 rfl) ?_
      refine lv_aload_n hx hb d_Mo_dropBeaten_10 rfl (lv_at hl 0 rfl) ?_
      refine rs_getR C hH hT h_v0 fk_11_40 tw_939 d_Mo_dropBeaten_11 (fun h51 => ?_)
      refine lv_iload_n hx hb d_Mo_dropBeaten_14 rfl (lv_at hl 3 rfl) ?_
      obtain ⟨g52, hF⟩ := hF
      refine rs_zald C hH h51 g52 d_Mo_dropBeaten_15 ?_
      refine lv_if_eq hx hb d_Mo_dropBeaten_16 (tgt := 34) rfl (fun hc => ?_) (fun hc => ?_)
      · replace hF := hF.1 hc
        exact JB_Mo_dropBeaten_34 C hK4 v0 x1 x3 x2 σ _ _ _ h_v0 hH hT hS (lv_sub hl [0, 1, 3] rfl) hF
      · replace hF := hF.2 hc
        refine lv_aload_n hx hb d_Mo_dropBeaten_19 rfl (lv_at hl 0 rfl) ?_
        refine lv_iload_n hx hb d_Mo_dropBeaten_20 rfl (lv_at hl 3 rfl) ?_
        refine lv_iload_n hx hb d_Mo_dropBeaten_21 rfl (lv_at hl 1 rfl) ?_
        refine rs_ci (rs_runV C hH hT hl (J_Mo_isBeaten l h_v0 hF) rc_Mo_isBeaten tw_1071 tw_1073 ts_41 h_v0 ⟨rfl, by decide, by decide⟩ rfl ⟨⟨rfl, rfl⟩, by decide, by decide, by decide⟩ (Nat.le_of_ble_eq_true rfl) rfl d_Mo_dropBeaten_22) hS (fun x54 σ53 H locs hH hT hS hF => ?_)
        refine lv_if_eq hx hb d_Mo_dropBeaten_25 (tgt := 34) rfl (fun hc => ?_) (fun hc => ?_)
        · replace hF := hF.1 hc
          exact JB_Mo_dropBeaten_34 C hK4 v0 x1 x3 x2 σ53 _ _ _ h_v0 hH hT hS (lv_sub hl [0, 1, 3] rfl) hF
        · replace hF := hF.2 hc
          refine lv_iconst hx hb d_Mo_dropBeaten_28 ki_1 ?_
          refine lv_iload_n hx hb d_Mo_dropBeaten_29 rfl (lv_at hl 3 rfl) ?_
          refine lv_ishl hx hb d_Mo_dropBeaten_30 ?_
          refine lv_goto hx hb d_Mo_dropBeaten_31 (tgt := 35) rfl ?_
          exact JB_Mo_dropBeaten_35 C hK4 v0 x1 x3 x2 ((1 : Int32) <<< (x3 &&& 31)) σ53 _ _ _ h_v0 hH hT hS (lv_sub hl [0, 1, 3] rfl) hF
abbrev y_Mo_dropBeaten : MethodName := ({ cls := "RouteSpeakerModel", name := "dropBeaten", desc := "(I)V" } : Jvm.MethodName)
theorem rc_Mo_dropBeaten : rs_Cal y_Mo_dropBeaten prog_12_method_52_code 4 none 1 := ⟨tw_1070, tw_11, by decide, by decide, by decide +kernel⟩
set_option maxRecDepth 20000 in
theorem J_Mo_dropBeaten (l : Launch) {G : rs_G} {Bm : Nat} {S : rs_Shp} {v0 : Nat} {x1 : Int32} {σ : rs_Mem} {Q : rs_Mem → Prop} (h_v0 : rs_Ok S 11 v0) (hF : F_Mo_dropBeaten S.2.2 v0 x1 σ Q) :
    Met l y_Mo_dropBeaten (rs_ws y_Mo_dropBeaten prog_12_method_52_code 4 none) { frames := 2, cells := 0, slots := 0, locals := 47 } (rs_P G Bm S σ [.ref (Bm + v0), .int x1]) (rs_Qv G Bm S Q) 0 0 (rs_A Bm) := by
  refine rs_met (own := "RouteSpeakerModel") (by decide) rfl (Nat.le_of_ble_eq_true rfl) (fun p e s m below meth c ls C hl hH hT hS => ?_)
  replace hl : lv_has ls 4 [(0, .ref (Bm + v0)), (1, .int x1)] := hl
  have hx := C.1
  have hb := C.2.1
  unfold F_Mo_dropBeaten at hF
  refine lv_iconst hx hb d_Mo_dropBeaten_0 ki_0 ?_
  refine lv_istore_n hx hb d_Mo_dropBeaten_1 rfl hl (by decide) (lv' := [(2, .int (0 : Int32)), (0, .ref (Bm + v0)), (1, .int x1)]) rfl (fun ls hl => ?_)
  refine lv_iconst hx hb d_Mo_dropBeaten_2 ki_0 ?_
  refine lv_istore_n hx hb d_Mo_dropBeaten_3 rfl hl (by decide) (lv' := [(3, .int (0 : Int32)), (2, .int (0 : Int32)), (0, .ref (Bm + v0)), (1, .int x1)]) rfl (fun ls hl => ?_)
  obtain ⟨n, hF⟩ := hF
  exact JL_Mo_dropBeaten_4 C n v0 x1 (0 : Int32) (0 : Int32) σ _ _ _ h_v0 hH hT hS (lv_sub hl [2, 3, 1, 0] rfl) hF
