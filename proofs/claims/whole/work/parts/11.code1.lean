/-! RouteSpeaker$Choice.winner()I -/
theorem d_Ch_winner_0 : decode prog_2_method_4_code 0 = .ok (.iconst 0, 1) := by decide +kernel
theorem d_Ch_winner_1 : decode prog_2_method_4_code 1 = .ok (.istore_n 1, 1) := by decide +kernel
theorem d_Ch_winner_2 : decode prog_2_method_4_code 2 = .ok (.iload_n 1, 1) := by decide +kernel
theorem d_Ch_winner_3 : decode prog_2_method_4_code 3 = .ok (.bipush (7), 2) := by decide +kernel
theorem d_Ch_winner_5 : decode prog_2_method_4_code 5 = .ok (.if_icmp .ge (14), 3) := by decide +kernel
theorem d_Ch_winner_8 : decode prog_2_method_4_code 8 = .ok (.aload_n 0, 1) := by decide +kernel
theorem d_Ch_winner_9 : decode prog_2_method_4_code 9 = .ok (.iload_n 1, 1) := by decide +kernel
theorem d_Ch_winner_10 : decode prog_2_method_4_code 10 = .ok (.invokevirtual 47, 3) := by decide +kernel
theorem d_Ch_winner_13 : decode prog_2_method_4_code 13 = .ok (.iinc 1 (1), 3) := by decide +kernel
theorem d_Ch_winner_16 : decode prog_2_method_4_code 16 = .ok (.goto (-14), 3) := by decide +kernel
theorem d_Ch_winner_19 : decode prog_2_method_4_code 19 = .ok (.aload_n 0, 1) := by decide +kernel
theorem d_Ch_winner_20 : decode prog_2_method_4_code 20 = .ok (.getfield 20, 3) := by decide +kernel
theorem d_Ch_winner_23 : decode prog_2_method_4_code 23 = .ok (.iconst 4, 1) := by decide +kernel
theorem d_Ch_winner_24 : decode prog_2_method_4_code 24 = .ok (.baload, 1) := by decide +kernel
theorem d_Ch_winner_25 : decode prog_2_method_4_code 25 = .ok (.ifCond .eq (5), 3) := by decide +kernel
theorem d_Ch_winner_28 : decode prog_2_method_4_code 28 = .ok (.iconst 4, 1) := by decide +kernel
theorem d_Ch_winner_29 : decode prog_2_method_4_code 29 = .ok (.ireturn, 1) := by decide +kernel
theorem d_Ch_winner_30 : decode prog_2_method_4_code 30 = .ok (.iconst 0, 1) := by decide +kernel
theorem d_Ch_winner_31 : decode prog_2_method_4_code 31 = .ok (.istore_n 1, 1) := by decide +kernel
theorem d_Ch_winner_32 : decode prog_2_method_4_code 32 = .ok (.iload_n 1, 1) := by decide +kernel
theorem d_Ch_winner_33 : decode prog_2_method_4_code 33 = .ok (.iconst 4, 1) := by decide +kernel
theorem d_Ch_winner_34 : decode prog_2_method_4_code 34 = .ok (.if_icmp .ge (20), 3) := by decide +kernel
theorem d_Ch_winner_37 : decode prog_2_method_4_code 37 = .ok (.aload_n 0, 1) := by decide +kernel
theorem d_Ch_winner_38 : decode prog_2_method_4_code 38 = .ok (.getfield 20, 3) := by decide +kernel
theorem d_Ch_winner_41 : decode prog_2_method_4_code 41 = .ok (.iload_n 1, 1) := by decide +kernel
theorem d_Ch_winner_42 : decode prog_2_method_4_code 42 = .ok (.baload, 1) := by decide +kernel
theorem d_Ch_winner_43 : decode prog_2_method_4_code 43 = .ok (.ifCond .eq (5), 3) := by decide +kernel
theorem d_Ch_winner_46 : decode prog_2_method_4_code 46 = .ok (.iload_n 1, 1) := by decide +kernel
theorem d_Ch_winner_47 : decode prog_2_method_4_code 47 = .ok (.ireturn, 1) := by decide +kernel
theorem d_Ch_winner_48 : decode prog_2_method_4_code 48 = .ok (.iinc 1 (1), 3) := by decide +kernel
theorem d_Ch_winner_51 : decode prog_2_method_4_code 51 = .ok (.goto (-19), 3) := by decide +kernel
theorem d_Ch_winner_54 : decode prog_2_method_4_code 54 = .ok (.iconst (-1), 1) := by decide +kernel
theorem d_Ch_winner_55 : decode prog_2_method_4_code 55 = .ok (.ireturn, 1) := by decide +kernel
def G_Ch_winner_32 (N : Nat → Nat) (Q : Int32 → rs_Mem → Prop) (K32 : Nat → Int32 → rs_Mem → Prop) (v0 : Nat) (x1 : Int32) (σ : rs_Mem) : Prop :=
  (((4 : Int32) ≤ x1 → (Q (-1 : Int32) σ)) ∧ (¬ ((4 : Int32) ≤ x1) → (vp_in x1 (N (rs_R σ v0 2)) ∧ (((rs_I σ (rs_R σ v0 2) x1.toNatClampNeg) = 0 → (∀ x53 : Int32, x53 = x1 + (1 : Int32) → (K32 v0 x53 σ))) ∧ (¬ ((rs_I σ (rs_R σ v0 2) x1.toNatClampNeg) = 0) → (Q x1 σ))))))
noncomputable def L_Ch_winner_32 (N : Nat → Nat) (Q : Int32 → rs_Mem → Prop) (n : Nat) : Nat → Int32 → rs_Mem → Prop := Nat.rec (motive := fun _ => Nat → Int32 → rs_Mem → Prop) (fun _ _ _ => False) (fun _ K => G_Ch_winner_32 N Q K) n
def G_Ch_winner_2 (N : Nat → Nat) (Q : Int32 → rs_Mem → Prop) (K2 : Nat → Int32 → rs_Mem → Prop) (v0 : Nat) (x1 : Int32) (σ : rs_Mem) : Prop :=
  (((7 : Int32) ≤ x1 → (vp_in (4 : Int32) (N (rs_R σ v0 2)) ∧ (((rs_I σ (rs_R σ v0 2) (4 : Int32).toNatClampNeg) = 0 → (∃ n : Nat, L_Ch_winner_32 N Q n v0 (0 : Int32) σ)) ∧ (¬ ((rs_I σ (rs_R σ v0 2) (4 : Int32).toNatClampNeg) = 0) → (Q (4 : Int32) σ))))) ∧ (¬ ((7 : Int32) ≤ x1) → (F_Ch_dropBeaten N v0 x1 σ (fun σ51 => (∀ x52 : Int32, x52 = x1 + (1 : Int32) → (K2 v0 x52 σ51))))))
noncomputable def L_Ch_winner_2 (N : Nat → Nat) (Q : Int32 → rs_Mem → Prop) (n : Nat) : Nat → Int32 → rs_Mem → Prop := Nat.rec (motive := fun _ => Nat → Int32 → rs_Mem → Prop) (fun _ _ _ => False) (fun _ K => G_Ch_winner_2 N Q K) n
def F_Ch_winner (N : Nat → Nat) (v0 : Nat) (σ : rs_Mem) (Q : Int32 → rs_Mem → Prop) : Prop :=
  (∃ n : Nat, L_Ch_winner_2 N Q n v0 (0 : Int32) σ)
set_option maxRecDepth 20000 in
theorem JL_Ch_winner_32 {p : Program} {l : Launch} {e : Env} {s : State} {m : MethodId} {args : Array Value} {below : List Frame} {meth : Method} {c : Code} {G : rs_G} {Bm : Nat} {S : rs_Shp} {Q : Int32 → rs_Mem → Prop} (C : rs_C "RouteSpeaker$Choice" prog_2_method_4_code 2 (some .int) G p s m meth c args) : ∀ n : Nat, ∀ (v0 : Nat) (x1 : Int32) (σ : rs_Mem) (H : Heap) (locs : List Loc) (ls : Array Slot), rs_Ok S 2 v0 → rs_H G Bm S σ H → rs_T S σ → va_S (rs_A Bm) s.heap H locs → lv_has ls 2 [(0, .ref (Bm + v0)), (1, .int x1)] → (L_Ch_winner_32 S.2.2 Q n) v0 x1 σ → W p l e { frames := 2, cells := 0, slots := 0, locals := 45 } s m args below meth c H locs 0 0 (MQ below (rs_Qi G Bm S Q) args s 0 0 (rs_A Bm)) (F0 m 32 ls []) := by
  have hx := C.1
  have hb := C.2.1
  intro n
  induction n with
  | zero => intros; rename_i hF; exact hF.elim
  | succ n hK32 =>
    intro v0 x1 σ H locs ls h_v0 hH hT hS hl hF
    replace hF : G_Ch_winner_32 S.2.2 Q (L_Ch_winner_32 S.2.2 Q n) v0 x1 σ := hF
    unfold G_Ch_winner_32 at hF
    refine lv_iload_n hx hb d_Ch_winner_32 rfl (lv_at hl 1 rfl) ?_
    refine lv_iconst hx hb d_Ch_winner_33 ki_4 ?_
    refine lv_icmp_ge hx hb d_Ch_winner_34 (tgt := 54) rfl (fun hc => ?_) (fun hc => ?_)
    · replace hF := hF.1 hc
      refine lv_iconst hx hb d_Ch_winner_54 ki_m1 ?_
      exact rs_iret C hH hT hS hF d_Ch_winner_55
    · replace hF := hF.2 hc
      refine lv_aload_n hx hb d_Ch_winner_37 rfl (lv_at hl 0 rfl) ?_
      refine rs_getR C hH hT h_v0 fk_2_2 tw_158 d_Ch_winner_38 (fun h51 => ?_)
      refine lv_iload_n hx hb d_Ch_winner_41 rfl (lv_at hl 1 rfl) ?_
      obtain ⟨g52, hF⟩ := hF
      refine rs_zald C hH h51 g52 d_Ch_winner_42 ?_
      refine lv_if_eq hx hb d_Ch_winner_43 (tgt := 48) rfl (fun hc => ?_) (fun hc => ?_)
      · replace hF := hF.1 hc
        obtain ⟨x53, ex53⟩ : ∃ z : Int32, z = x1 + (1 : Int32) := ⟨_, rfl⟩
        replace hF := hF x53 ex53
        refine lv_iinc hx hb d_Ch_winner_48 hl (k := 1) rfl (v := x53) (by rw [ki_1, ex53]) (by decide) (lv' := [(1, .int x53), (0, .ref (Bm + v0))]) rfl (fun ls hl => ?_)
        refine lv_goto hx hb d_Ch_winner_51 (tgt := 32) rfl ?_
        exact hK32 v0 x53 σ _ _ _ h_v0 hH hT hS (lv_sub hl [1, 0] rfl) hF
      · replace hF := hF.2 hc
        refine lv_iload_n hx hb d_Ch_winner_46 rfl (lv_at hl 1 rfl) ?_
        exact rs_iret C hH hT hS hF d_Ch_winner_47
set_option maxRecDepth 20000 in
theorem JL_Ch_winner_2 {p : Program} {l : Launch} {e : Env} {s : State} {m : MethodId} {args : Array Value} {below : List Frame} {meth : Method} {c : Code} {G : rs_G} {Bm : Nat} {S : rs_Shp} {Q : Int32 → rs_Mem → Prop} (C : rs_C "RouteSpeaker$Choice" prog_2_method_4_code 2 (some .int) G p s m meth c args) : ∀ n : Nat, ∀ (v0 : Nat) (x1 : Int32) (σ : rs_Mem) (H : Heap) (locs : List Loc) (ls : Array Slot), rs_Ok S 2 v0 → rs_H G Bm S σ H → rs_T S σ → va_S (rs_A Bm) s.heap H locs → lv_has ls 2 [(0, .ref (Bm + v0)), (1, .int x1)] → (L_Ch_winner_2 S.2.2 Q n) v0 x1 σ → W p l e { frames := 2, cells := 0, slots := 0, locals := 45 } s m args below meth c H locs 0 0 (MQ below (rs_Qi G Bm S Q) args s 0 0 (rs_A Bm)) (F0 m 2 ls []) := by
  have hx := C.1
  have hb := C.2.1
  intro n
  induction n with
  | zero => intros; rename_i hF; exact hF.elim
  | succ n hK2 =>
    intro v0 x1 σ H locs ls h_v0 hH hT hS hl hF
    replace hF : G_Ch_winner_2 S.2.2 Q (L_Ch_winner_2 S.2.2 Q n) v0 x1 σ := hF
    unfold G_Ch_winner_2 at hF
    refine lv_iload_n hx hb d_Ch_winner_2 rfl (lv_at hl 1 rfl) ?_
    refine lv_bipush hx hb d_Ch_winner_3 kb_7 ?_
    refine lv_icmp_ge hx hb d_Ch_winner_5 (tgt := 19) rfl (fun hc => ?_) (fun hc => ?_)
    · replace hF := hF.1 hc
      refine lv_aload_n hx hb d_Ch_winner_19 rfl (lv_at hl 0 rfl) ?_
      refine rs_getR C hH hT h_v0 fk_2_2 tw_158 d_Ch_winner_20 (fun h51 => ?_)
      refine lv_iconst hx hb d_Ch_winner_23 ki_4 ?_
      obtain ⟨g52, hF⟩ := hF
      refine rs_zald C hH h51 g52 d_Ch_winner_24 ?_
      refine lv_if_eq hx hb d_Ch_winner_25 (tgt := 30) rfl (fun hc => ?_) (fun hc => ?_)
      · replace hF := hF.1 hc
        refine lv_iconst hx hb d_Ch_winner_30 ki_0 ?_
        refine lv_istore_n hx hb d_Ch_winner_31 rfl hl (by decide) (lv' := [(1, .int (0 : Int32)), (0, .ref (Bm + v0))]) rfl (fun ls hl => ?_)
        obtain ⟨n, hF⟩ := hF
        exact JL_Ch_winner_32 C n v0 (0 : Int32) σ _ _ _ h_v0 hH hT hS (lv_sub hl [1, 0] rfl) hF
      · replace hF := hF.2 hc
        refine lv_iconst hx hb d_Ch_winner_28 ki_4 ?_
        exact rs_iret C hH hT hS hF d_Ch_winner_29
    · replace hF := hF.2 hc
      refine lv_aload_n hx hb d_Ch_winner_8 rfl (lv_at hl 0 rfl) ?_
      refine lv_iload_n hx hb d_Ch_winner_9 rfl (lv_at hl 1 rfl) ?_
      refine rs_cv (rs_runV C hH hT hl (J_Ch_dropBeaten l h_v0 hF) rc_Ch_dropBeaten tw_439 tw_441 ts_10 h_v0 ⟨rfl, by decide, by decide⟩ rfl ⟨⟨rfl, rfl⟩, by decide, by decide, by decide⟩ (Nat.le_of_ble_eq_true rfl) rfl d_Ch_winner_10) hS (fun σ51 H locs hH hT hS hF => ?_)
      obtain ⟨x52, ex52⟩ : ∃ z : Int32, z = x1 + (1 : Int32) := ⟨_, rfl⟩
      replace hF := hF x52 ex52
      refine lv_iinc hx hb d_Ch_winner_13 hl (k := 1) rfl (v := x52) (by rw [ki_1, ex52]) (by decide) (lv' := [(1, .int x52), (0, .ref (Bm + v0))]) rfl (fun ls hl => ?_)
      refine lv_goto hx hb d_Ch_winner_16 (tgt := 2) rfl ?_
      exact hK2 v0 x52 σ51 _ _ _ h_v0 hH hT hS (lv_sub hl [1, 0] rfl) hF
abbrev y_Ch_winner : MethodName := ({ cls := "RouteSpeaker$Choice", name := "winner", desc := "()I" } : Jvm.MethodName)
theorem rc_Ch_winner : rs_Cal y_Ch_winner prog_2_method_4_code 2 (some .int) 0 := ⟨tw_438, tw_5, by decide, by decide, by decide +kernel⟩
set_option maxRecDepth 20000 in
theorem J_Ch_winner (l : Launch) {G : rs_G} {Bm : Nat} {S : rs_Shp} {v0 : Nat} {σ : rs_Mem} {Q : Int32 → rs_Mem → Prop} (h_v0 : rs_Ok S 2 v0) (hF : F_Ch_winner S.2.2 v0 σ Q) :
    Met l y_Ch_winner (rs_ws y_Ch_winner prog_2_method_4_code 2 (some .int)) { frames := 2, cells := 0, slots := 0, locals := 45 } (rs_P G Bm S σ [.ref (Bm + v0)]) (rs_Qi G Bm S Q) 0 0 (rs_A Bm) := by
  refine rs_met (own := "RouteSpeaker$Choice") (by decide) rfl (Nat.le_of_ble_eq_true rfl) (fun p e s m below meth c ls C hl hH hT hS => ?_)
  replace hl : lv_has ls 2 [(0, .ref (Bm + v0))] := hl
  have hx := C.1
  have hb := C.2.1
  unfold F_Ch_winner at hF
  refine lv_iconst hx hb d_Ch_winner_0 ki_0 ?_
  refine lv_istore_n hx hb d_Ch_winner_1 rfl hl (by decide) (lv' := [(1, .int (0 : Int32)), (0, .ref (Bm + v0))]) rfl (fun ls hl => ?_)
  obtain ⟨n, hF⟩ := hF
  exact JL_Ch_winner_2 C n v0 (0 : Int32) σ _ _ _ h_v0 hH hT hS (lv_sub hl [1, 0] rfl) hF
/-! RouteSpeaker.chooseFor(I)I -/
theorem d_Sp_chooseFor_0 : decode prog_1_method_27_code 0 = .ok (.iload_n 1, 1) := by decide +kernel
theorem d_Sp_chooseFor_1 : decode prog_1_method_27_code 1 = .ok (.iconst (-1), 1) := by decide +kernel
theorem d_Sp_chooseFor_2 : decode prog_1_method_27_code 2 = .ok (.if_icmp .ne (5), 3) := by decide +kernel
theorem d_Sp_chooseFor_5 : decode prog_1_method_27_code 5 = .ok (.iconst (-1), 1) := by decide +kernel
theorem d_Sp_chooseFor_6 : decode prog_1_method_27_code 6 = .ok (.ireturn, 1) := by decide +kernel
theorem d_Sp_chooseFor_7 : decode prog_1_method_27_code 7 = .ok (.aload_n 0, 1) := by decide +kernel
theorem d_Sp_chooseFor_8 : decode prog_1_method_27_code 8 = .ok (.getfield 39, 3) := by decide +kernel
theorem d_Sp_chooseFor_11 : decode prog_1_method_27_code 11 = .ok (.invokevirtual 235, 3) := by decide +kernel
theorem d_Sp_chooseFor_14 : decode prog_1_method_27_code 14 = .ok (.iconst 0, 1) := by decide +kernel
theorem d_Sp_chooseFor_15 : decode prog_1_method_27_code 15 = .ok (.istore_n 2, 1) := by decide +kernel
theorem d_Sp_chooseFor_16 : decode prog_1_method_27_code 16 = .ok (.iload_n 2, 1) := by decide +kernel
theorem d_Sp_chooseFor_17 : decode prog_1_method_27_code 17 = .ok (.iconst 4, 1) := by decide +kernel
theorem d_Sp_chooseFor_18 : decode prog_1_method_27_code 18 = .ok (.if_icmp .ge (76), 3) := by decide +kernel
theorem d_Sp_chooseFor_21 : decode prog_1_method_27_code 21 = .ok (.aload_n 0, 1) := by decide +kernel
theorem d_Sp_chooseFor_22 : decode prog_1_method_27_code 22 = .ok (.getfield 18, 3) := by decide +kernel
theorem d_Sp_chooseFor_25 : decode prog_1_method_27_code 25 = .ok (.iload_n 2, 1) := by decide +kernel
theorem d_Sp_chooseFor_26 : decode prog_1_method_27_code 26 = .ok (.aaload, 1) := by decide +kernel
theorem d_Sp_chooseFor_27 : decode prog_1_method_27_code 27 = .ok (.getfield 150, 3) := by decide +kernel
theorem d_Sp_chooseFor_30 : decode prog_1_method_27_code 30 = .ok (.iload_n 1, 1) := by decide +kernel
theorem d_Sp_chooseFor_31 : decode prog_1_method_27_code 31 = .ok (.invokevirtual 197, 3) := by decide +kernel
theorem d_Sp_chooseFor_34 : decode prog_1_method_27_code 34 = .ok (.ifCond .eq (54), 3) := by decide +kernel
theorem d_Sp_chooseFor_37 : decode prog_1_method_27_code 37 = .ok (.aload_n 0, 1) := by decide +kernel
theorem d_Sp_chooseFor_38 : decode prog_1_method_27_code 38 = .ok (.iload_n 2, 1) := by decide +kernel
theorem d_Sp_chooseFor_39 : decode prog_1_method_27_code 39 = .ok (.iload_n 1, 1) := by decide +kernel
theorem d_Sp_chooseFor_40 : decode prog_1_method_27_code 40 = .ok (.invokevirtual 200, 3) := by decide +kernel
theorem d_Sp_chooseFor_43 : decode prog_1_method_27_code 43 = .ok (.ifCond .ne (45), 3) := by decide +kernel
theorem d_Sp_chooseFor_46 : decode prog_1_method_27_code 46 = .ok (.aload_n 0, 1) := by decide +kernel
theorem d_Sp_chooseFor_47 : decode prog_1_method_27_code 47 = .ok (.getfield 39, 3) := by decide +kernel
theorem d_Sp_chooseFor_50 : decode prog_1_method_27_code 50 = .ok (.iload_n 2, 1) := by decide +kernel
theorem d_Sp_chooseFor_51 : decode prog_1_method_27_code 51 = .ok (.aload_n 0, 1) := by decide +kernel
theorem d_Sp_chooseFor_52 : decode prog_1_method_27_code 52 = .ok (.getfield 18, 3) := by decide +kernel
theorem d_Sp_chooseFor_55 : decode prog_1_method_27_code 55 = .ok (.iload_n 2, 1) := by decide +kernel
theorem d_Sp_chooseFor_56 : decode prog_1_method_27_code 56 = .ok (.aaload, 1) := by decide +kernel
theorem d_Sp_chooseFor_57 : decode prog_1_method_27_code 57 = .ok (.getfield 150, 3) := by decide +kernel
theorem d_Sp_chooseFor_60 : decode prog_1_method_27_code 60 = .ok (.getfield 219, 3) := by decide +kernel
theorem d_Sp_chooseFor_63 : decode prog_1_method_27_code 63 = .ok (.iload_n 1, 1) := by decide +kernel
theorem d_Sp_chooseFor_64 : decode prog_1_method_27_code 64 = .ok (.aaload, 1) := by decide +kernel
theorem d_Sp_chooseFor_65 : decode prog_1_method_27_code 65 = .ok (.aload_n 0, 1) := by decide +kernel
theorem d_Sp_chooseFor_66 : decode prog_1_method_27_code 66 = .ok (.iload_n 2, 1) := by decide +kernel
theorem d_Sp_chooseFor_67 : decode prog_1_method_27_code 67 = .ok (.iload_n 1, 1) := by decide +kernel
theorem d_Sp_chooseFor_68 : decode prog_1_method_27_code 68 = .ok (.invokevirtual 187, 3) := by decide +kernel
theorem d_Sp_chooseFor_71 : decode prog_1_method_27_code 71 = .ok (.aload_n 0, 1) := by decide +kernel
theorem d_Sp_chooseFor_72 : decode prog_1_method_27_code 72 = .ok (.iload_n 2, 1) := by decide +kernel
theorem d_Sp_chooseFor_73 : decode prog_1_method_27_code 73 = .ok (.invokevirtual 236, 3) := by decide +kernel
theorem d_Sp_chooseFor_76 : decode prog_1_method_27_code 76 = .ok (.aload_n 0, 1) := by decide +kernel
theorem d_Sp_chooseFor_77 : decode prog_1_method_27_code 77 = .ok (.getfield 18, 3) := by decide +kernel
theorem d_Sp_chooseFor_80 : decode prog_1_method_27_code 80 = .ok (.iload_n 2, 1) := by decide +kernel
theorem d_Sp_chooseFor_81 : decode prog_1_method_27_code 81 = .ok (.aaload, 1) := by decide +kernel
theorem d_Sp_chooseFor_82 : decode prog_1_method_27_code 82 = .ok (.getfield 174, 3) := by decide +kernel
theorem d_Sp_chooseFor_85 : decode prog_1_method_27_code 85 = .ok (.invokevirtual 239, 3) := by decide +kernel
theorem d_Sp_chooseFor_88 : decode prog_1_method_27_code 88 = .ok (.iinc 2 (1), 3) := by decide +kernel
theorem d_Sp_chooseFor_91 : decode prog_1_method_27_code 91 = .ok (.goto (-75), 3) := by decide +kernel
theorem d_Sp_chooseFor_94 : decode prog_1_method_27_code 94 = .ok (.aload_n 0, 1) := by decide +kernel
theorem d_Sp_chooseFor_95 : decode prog_1_method_27_code 95 = .ok (.getfield 10, 3) := by decide +kernel
theorem d_Sp_chooseFor_98 : decode prog_1_method_27_code 98 = .ok (.getfield 113, 3) := by decide +kernel
theorem d_Sp_chooseFor_101 : decode prog_1_method_27_code 101 = .ok (.iload_n 1, 1) := by decide +kernel
theorem d_Sp_chooseFor_102 : decode prog_1_method_27_code 102 = .ok (.baload, 1) := by decide +kernel
theorem d_Sp_chooseFor_103 : decode prog_1_method_27_code 103 = .ok (.ifCond .eq (25), 3) := by decide +kernel
theorem d_Sp_chooseFor_106 : decode prog_1_method_27_code 106 = .ok (.aload_n 0, 1) := by decide +kernel
theorem d_Sp_chooseFor_107 : decode prog_1_method_27_code 107 = .ok (.getfield 39, 3) := by decide +kernel
theorem d_Sp_chooseFor_110 : decode prog_1_method_27_code 110 = .ok (.iconst 4, 1) := by decide +kernel
theorem d_Sp_chooseFor_111 : decode prog_1_method_27_code 111 = .ok (.aload_n 0, 1) := by decide +kernel
theorem d_Sp_chooseFor_112 : decode prog_1_method_27_code 112 = .ok (.getfield 25, 3) := by decide +kernel
theorem d_Sp_chooseFor_115 : decode prog_1_method_27_code 115 = .ok (.aload_n 0, 1) := by decide +kernel
theorem d_Sp_chooseFor_116 : decode prog_1_method_27_code 116 = .ok (.getfield 25, 3) := by decide +kernel
theorem d_Sp_chooseFor_119 : decode prog_1_method_27_code 119 = .ok (.getfield 226, 3) := by decide +kernel
theorem d_Sp_chooseFor_122 : decode prog_1_method_27_code 122 = .ok (.iconst 0, 1) := by decide +kernel
theorem d_Sp_chooseFor_123 : decode prog_1_method_27_code 123 = .ok (.bipush (7), 2) := by decide +kernel
theorem d_Sp_chooseFor_125 : decode prog_1_method_27_code 125 = .ok (.invokevirtual 239, 3) := by decide +kernel
theorem d_Sp_chooseFor_128 : decode prog_1_method_27_code 128 = .ok (.aload_n 0, 1) := by decide +kernel
theorem d_Sp_chooseFor_129 : decode prog_1_method_27_code 129 = .ok (.getfield 39, 3) := by decide +kernel
theorem d_Sp_chooseFor_132 : decode prog_1_method_27_code 132 = .ok (.invokevirtual 243, 3) := by decide +kernel
theorem d_Sp_chooseFor_135 : decode prog_1_method_27_code 135 = .ok (.ireturn, 1) := by decide +kernel
def B_Sp_chooseFor_128 (N : Nat → Nat) (Q : Int32 → rs_Mem → Prop) (v0 : Nat) (σ : rs_Mem) : Prop :=
  (F_Ch_winner N (rs_R σ v0 4) σ (fun x53 σ52 => (Q x53 σ52)))
def G_Sp_chooseFor_16 (N : Nat → Nat) (Q : Int32 → rs_Mem → Prop) (K16 : Nat → Int32 → Int32 → rs_Mem → Prop) (v0 : Nat) (x1 : Int32) (x2 : Int32) (σ : rs_Mem) : Prop :=
  (((4 : Int32) ≤ x2 → (vp_in x1 (N (rs_R σ (rs_R σ v0 0) 2)) ∧ (((rs_I σ (rs_R σ (rs_R σ v0 0) 2) x1.toNatClampNeg) = 0 → (B_Sp_chooseFor_128 N Q v0 σ)) ∧ (¬ ((rs_I σ (rs_R σ (rs_R σ v0 0) 2) x1.toNatClampNeg) = 0) → (F_Ch_offer N (rs_R σ v0 4) (4 : Int32) (rs_R σ v0 2) (rs_I σ (rs_R σ v0 2) 5) (0 : Int32) (7 : Int32) σ (fun σ57 => (B_Sp_chooseFor_128 N Q v0 σ57))))))) ∧ (¬ ((4 : Int32) ≤ x2) → (vp_in x2 (N (rs_R σ v0 1)) ∧ (F_In_has N (rs_R σ (rs_R σ (rs_R σ v0 1) x2.toNatClampNeg) 15) x1 σ (fun x56 σ55 => ((x56 = 0 → (∀ x57 : Int32, x57 = x2 + (1 : Int32) → (K16 v0 x1 x57 σ55))) ∧ (¬ (x56 = 0) → (F_Sp_flawsOf N v0 x2 x1 σ55 (fun x58 σ57 => ((¬ (x58 = 0) → (∀ x59 : Int32, x59 = x2 + (1 : Int32) → (K16 v0 x1 x59 σ57))) ∧ (x58 = 0 → (vp_in x2 (N (rs_R σ57 v0 1)) ∧ (vp_in x1 (N (rs_R σ57 (rs_R σ57 (rs_R σ57 (rs_R σ57 v0 1) x2.toNatClampNeg) 15) 0)) ∧ (F_Sp_preferenceOf N v0 x2 x1 σ57 (fun x68 σ67 => (F_Sp_isInternal N v0 x2 σ67 (fun x70 σ69 => (vp_in x2 (N (rs_R σ69 v0 1)) ∧ (F_Ch_offer N (rs_R σ57 v0 4) x2 (rs_R σ57 (rs_R σ57 (rs_R σ57 (rs_R σ57 (rs_R σ57 v0 1) x2.toNatClampNeg) 15) 0) x1.toNatClampNeg) x68 x70 (rs_I σ69 (rs_R σ69 (rs_R σ69 v0 1) x2.toNatClampNeg) 10) σ69 (fun σ74 => (∀ x75 : Int32, x75 = x2 + (1 : Int32) → (K16 v0 x1 x75 σ74))))))))))))))))))))))
noncomputable def L_Sp_chooseFor_16 (N : Nat → Nat) (Q : Int32 → rs_Mem → Prop) (n : Nat) : Nat → Int32 → Int32 → rs_Mem → Prop := Nat.rec (motive := fun _ => Nat → Int32 → Int32 → rs_Mem → Prop) (fun _ _ _ _ => False) (fun _ K => G_Sp_chooseFor_16 N Q K) n
def F_Sp_chooseFor (N : Nat → Nat) (v0 : Nat) (x1 : Int32) (σ : rs_Mem) (Q : Int32 → rs_Mem → Prop) : Prop :=
  ((¬ (x1 = (-1 : Int32)) → (F_Ch_clear N (rs_R σ v0 4) σ (fun σ52 => (∃ n : Nat, L_Sp_chooseFor_16 N Q n v0 x1 (0 : Int32) σ52)))) ∧ (x1 = (-1 : Int32) → (Q (-1 : Int32) σ)))
set_option maxRecDepth 20000 in
theorem JB_Sp_chooseFor_128 {p : Program} {l : Launch} {e : Env} {s : State} {m : MethodId} {args : Array Value} {below : List Frame} {meth : Method} {c : Code} {G : rs_G} {Bm : Nat} {S : rs_Shp} {Q : Int32 → rs_Mem → Prop} (C : rs_C "RouteSpeaker" prog_1_method_27_code 3 (some .int) G p s m meth c args) (v0 : Nat) (σ : rs_Mem) (H : Heap) (locs : List Loc) (ls : Array Slot) (h_v0 : rs_Ok S 1 v0) (hH : rs_H G Bm S σ H) (hT : rs_T S σ) (hS : va_S (rs_A Bm) s.heap H locs) (hl : lv_has ls 3 [(0, .ref (Bm + v0))]) (hF : B_Sp_chooseFor_128 S.2.2 Q v0 σ) :
    W p l e { frames := 3, cells := 0, slots := 0, locals := 69 } s m args below meth c H locs 0 0 (MQ below (rs_Qi G Bm S Q) args s 0 0 (rs_A Bm)) (F0 m 128 ls []) := by
  have hx := C.1
  have hb := C.2.1
  unfold B_Sp_chooseFor_128 at hF
  refine lv_aload_n hx hb d_Sp_chooseFor_128 rfl (lv_at hl 0 rfl) ?_
  refine rs_getR C hH hT h_v0 fk_1_4 tw_324 d_Sp_chooseFor_129 (fun h51 => ?_)
  refine rs_ci (rs_runV C hH hT hl (J_Ch_winner l h51 hF) rc_Ch_winner tw_435 tw_436 tw_437 h51 ⟨rfl, by decide, by decide⟩ rfl ⟨⟨rfl, rfl⟩, by decide, by decide, by decide⟩ (Nat.le_of_ble_eq_true rfl) rfl d_Sp_chooseFor_132) hS (fun x53 σ52 H locs hH hT hS hF => ?_)
  exact rs_iret C hH hT hS hF d_Sp_chooseFor_135
set_option maxRecDepth 20000 in
theorem JL_Sp_chooseFor_16 {p : Program} {l : Launch} {e : Env} {s : State} {m : MethodId} {args : Array Value} {below : List Frame} {meth : Method} {c : Code} {G : rs_G} {Bm : Nat} {S : rs_Shp} {Q : Int32 → rs_Mem → Prop} (C : rs_C "RouteSpeaker" prog_1_method_27_code 3 (some .int) G p s m meth c args) : ∀ n : Nat, ∀ (v0 : Nat) (x1 : Int32) (x2 : Int32) (σ : rs_Mem) (H : Heap) (locs : List Loc) (ls : Array Slot), rs_Ok S 1 v0 → rs_H G Bm S σ H → rs_T S σ → va_S (rs_A Bm) s.heap H locs → lv_has ls 3 [(0, .ref (Bm + v0)), (1, .int x1), (2, .int x2)] → (L_Sp_chooseFor_16 S.2.2 Q n) v0 x1 x2 σ → W p l e { frames := 3, cells := 0, slots := 0, locals := 69 } s m args below meth c H locs 0 0 (MQ below (rs_Qi G Bm S Q) args s 0 0 (rs_A Bm)) (F0 m 16 ls []) := by
  have hx := C.1
  have hb := C.2.1
  intro n
  induction n with
  | zero => intros; rename_i hF; exact hF.elim
  | succ n hK16 =>
    intro v0 x1 x2 σ H locs ls h_v0 hH hT hS hl hF
    replace hF : G_Sp_chooseFor_16 S.2.2 Q (L_Sp_chooseFor_16 S.2.2 Q n) v0 x1 x2 σ := hF
    unfold G_Sp_chooseFor_16 at hF
    refine lv_iload_n hx hb d_Sp_chooseFor_16 rfl (lv_at hl 2 rfl) ?_
    refine lv_iconst hx hb d_Sp_chooseFor_17 ki_4 ?_
    refine lv_icmp_ge hx hb d_Sp_chooseFor_18 (tgt := 94) rfl (fun hc => ?_) (fun hc => ?_)
    · replace hF := hF.1 hc
      refine lv_aload_n hx hb d_Sp_chooseFor_94 rfl (lv_at hl 0 rfl) ?_
      refine rs_getR C hH hT h_v0 fk_1_0 tw_320 d_Sp_chooseFor_95 (fun h51 => ?_)
      refine rs_getR C hH hT h51 fk_7_2 tw_39 d_Sp_chooseFor_98 (fun h52 => ?_)
      refine lv_iload_n hx hb d_Sp_chooseFor_101 rfl (lv_at hl 1 rfl) ?_
      obtain ⟨g53, hF⟩ := hF
      refine rs_zald C hH h52 g53 d_Sp_chooseFor_102 ?_
      refine lv_if_eq hx hb d_Sp_chooseFor_103 (tgt := 128) rfl (fun hc => ?_) (fun hc => ?_)
      · replace hF := hF.1 hc
        exact JB_Sp_chooseFor_128 C v0 σ _ _ _ h_v0 hH hT hS (lv_sub hl [0] rfl) hF
      · replace hF := hF.2 hc
        refine lv_aload_n hx hb d_Sp_chooseFor_106 rfl (lv_at hl 0 rfl) ?_
        refine rs_getR C hH hT h_v0 fk_1_4 tw_324 d_Sp_chooseFor_107 (fun h54 => ?_)
        refine lv_iconst hx hb d_Sp_chooseFor_110 ki_4 ?_
        refine lv_aload_n hx hb d_Sp_chooseFor_111 rfl (lv_at hl 0 rfl) ?_
        refine rs_getR C hH hT h_v0 fk_1_2 tw_322 d_Sp_chooseFor_112 (fun h55 => ?_)
        refine lv_aload_n hx hb d_Sp_chooseFor_115 rfl (lv_at hl 0 rfl) ?_
        refine rs_getR C hH hT h_v0 fk_1_2 tw_322 d_Sp_chooseFor_116 (fun h56 => ?_)
        refine rs_getI C hH h56 fk_8_5 tw_83 d_Sp_chooseFor_119 ?_
        refine lv_iconst hx hb d_Sp_chooseFor_122 ki_0 ?_
        refine lv_bipush hx hb d_Sp_chooseFor_123 kb_7 ?_
        refine rs_cv (rs_runV C hH hT hl (J_Ch_offer l h54 h55 hF) rc_Ch_offer tw_423 tw_424 tw_425 h54 ⟨rfl, by decide, by decide⟩ rfl ⟨⟨rfl, rfl⟩, by decide, by decide, by decide⟩ (Nat.le_of_ble_eq_true rfl) rfl d_Sp_chooseFor_125) hS (fun σ57 H locs hH hT hS hF => ?_)
        exact JB_Sp_chooseFor_128 C v0 σ57 _ _ _ h_v0 hH hT hS (lv_sub hl [0] rfl) hF
    · replace hF := hF.2 hc
      refine lv_aload_n hx hb d_Sp_chooseFor_21 rfl (lv_at hl 0 rfl) ?_
      refine rs_getR C hH hT h_v0 fk_1_1 tw_321 d_Sp_chooseFor_22 (fun h51 => ?_)
      refine lv_iload_n hx hb d_Sp_chooseFor_25 rfl (lv_at hl 2 rfl) ?_
      obtain ⟨g52, hF⟩ := hF
      refine rs_aald C hH hT h51 ak_24 g52 d_Sp_chooseFor_26 (fun h53 => ?_)
      refine rs_getR C hH hT h53 fk_6_15 tw_283 d_Sp_chooseFor_27 (fun h54 => ?_)
      refine lv_iload_n hx hb d_Sp_chooseFor_30 rfl (lv_at hl 1 rfl) ?_
      refine rs_ci (rs_runV C hH hT hl (J_In_has l h54 hF) rc_In_has tw_389 tw_390 tw_391 h54 ⟨rfl, by decide, by decide⟩ rfl ⟨⟨rfl, rfl⟩, by decide, by decide, by decide⟩ (Nat.le_of_ble_eq_true rfl) rfl d_Sp_chooseFor_31) hS (fun x56 σ55 H locs hH hT hS hF => ?_)
      refine lv_if_eq hx hb d_Sp_chooseFor_34 (tgt := 88) rfl (fun hc => ?_) (fun hc => ?_)
      · replace hF := hF.1 hc
        obtain ⟨x57, ex57⟩ : ∃ z : Int32, z = x2 + (1 : Int32) := ⟨_, rfl⟩
        replace hF := hF x57 ex57
        refine lv_iinc hx hb d_Sp_chooseFor_88 hl (k := 2) rfl (v := x57) (by rw [ki_1, ex57]) (by decide) (lv' := [(2, .int x57), (0, .ref (Bm + v0)), (1, .int x1)]) rfl (fun ls hl => ?_)
        refine lv_goto hx hb d_Sp_chooseFor_91 (tgt := 16) rfl ?_
        exact hK16 v0 x1 x57 σ55 _ _ _ h_v0 hH hT hS (lv_sub hl [1, 2, 0] rfl) hF
      · replace hF := hF.2 hc
        refine lv_aload_n hx hb d_Sp_chooseFor_37 rfl (lv_at hl 0 rfl) ?_
        refine lv_iload_n hx hb d_Sp_chooseFor_38 rfl (lv_at hl 2 rfl) ?_
        refine lv_iload_n hx hb d_Sp_chooseFor_39 rfl (lv_at hl 1 rfl) ?_
        refine rs_ci (rs_runV C hH hT hl (J_Sp_flawsOf l h_v0 hF) rc_Sp_flawsOf tw_393 tw_395 ts_6 h_v0 ⟨rfl, by decide, by decide⟩ rfl ⟨⟨rfl, rfl⟩, by decide, by decide, by decide⟩ (Nat.le_of_ble_eq_true rfl) rfl d_Sp_chooseFor_40) hS (fun x58 σ57 H locs hH hT hS hF => ?_)
        refine lv_if_ne hx hb d_Sp_chooseFor_43 (tgt := 88) rfl (fun hc => ?_) (fun hc => ?_)
        · replace hF := hF.1 hc
          obtain ⟨x59, ex59⟩ : ∃ z : Int32, z = x2 + (1 : Int32) := ⟨_, rfl⟩
          replace hF := hF x59 ex59
          refine lv_iinc hx hb d_Sp_chooseFor_88 hl (k := 2) rfl (v := x59) (by rw [ki_1, ex59]) (by decide) (lv' := [(2, .int x59), (0, .ref (Bm + v0)), (1, .int x1)]) rfl (fun ls hl => ?_)
          refine lv_goto hx hb d_Sp_chooseFor_91 (tgt := 16) rfl ?_
          exact hK16 v0 x1 x59 σ57 _ _ _ h_v0 hH hT hS (lv_sub hl [1, 2, 0] rfl) hF
        · replace hF := hF.2 hc
          refine lv_aload_n hx hb d_Sp_chooseFor_46 rfl (lv_at hl 0 rfl) ?_
          refine rs_getR C hH hT h_v0 fk_1_4 tw_324 d_Sp_chooseFor_47 (fun h59 => ?_)
          refine lv_iload_n hx hb d_Sp_chooseFor_50 rfl (lv_at hl 2 rfl) ?_
          refine lv_aload_n hx hb d_Sp_chooseFor_51 rfl (lv_at hl 0 rfl) ?_
          refine rs_getR C hH hT h_v0 fk_1_1 tw_321 d_Sp_chooseFor_52 (fun h60 => ?_)
          refine lv_iload_n hx hb d_Sp_chooseFor_55 rfl (lv_at hl 2 rfl) ?_
          obtain ⟨g61, hF⟩ := hF
          refine rs_aald C hH hT h60 ak_24 g61 d_Sp_chooseFor_56 (fun h62 => ?_)
          refine rs_getR C hH hT h62 fk_6_15 tw_283 d_Sp_chooseFor_57 (fun h63 => ?_)
          refine rs_getR C hH hT h63 fk_3_0 tw_238 d_Sp_chooseFor_60 (fun h64 => ?_)
          refine lv_iload_n hx hb d_Sp_chooseFor_63 rfl (lv_at hl 1 rfl) ?_
          obtain ⟨g65, hF⟩ := hF
          refine rs_aald C hH hT h64 ak_25 g65 d_Sp_chooseFor_64 (fun h66 => ?_)
          refine lv_aload_n hx hb d_Sp_chooseFor_65 rfl (lv_at hl 0 rfl) ?_
          refine lv_iload_n hx hb d_Sp_chooseFor_66 rfl (lv_at hl 2 rfl) ?_
          refine lv_iload_n hx hb d_Sp_chooseFor_67 rfl (lv_at hl 1 rfl) ?_
          refine rs_ci (rs_runV C hH hT hl (J_Sp_preferenceOf l h_v0 hF) rc_Sp_preferenceOf tw_411 tw_413 ts_7 h_v0 ⟨rfl, by decide, by decide⟩ rfl ⟨⟨rfl, rfl⟩, by decide, by decide, by decide⟩ (Nat.le_of_ble_eq_true rfl) rfl d_Sp_chooseFor_68) hS (fun x68 σ67 H locs hH hT hS hF => ?_)
          refine lv_aload_n hx hb d_Sp_chooseFor_71 rfl (lv_at hl 0 rfl) ?_
          refine lv_iload_n hx hb d_Sp_chooseFor_72 rfl (lv_at hl 2 rfl) ?_
          refine rs_ci (rs_runV C hH hT hl (J_Sp_isInternal l h_v0 hF) rc_Sp_isInternal tw_419 tw_421 ts_9 h_v0 ⟨rfl, by decide, by decide⟩ rfl ⟨⟨rfl, rfl⟩, by decide, by decide, by decide⟩ (Nat.le_of_ble_eq_true rfl) rfl d_Sp_chooseFor_73) hS (fun x70 σ69 H locs hH hT hS hF => ?_)
          refine lv_aload_n hx hb d_Sp_chooseFor_76 rfl (lv_at hl 0 rfl) ?_
          refine rs_getR C hH hT h_v0 fk_1_1 tw_321 d_Sp_chooseFor_77 (fun h71 => ?_)
          refine lv_iload_n hx hb d_Sp_chooseFor_80 rfl (lv_at hl 2 rfl) ?_
          obtain ⟨g72, hF⟩ := hF
          refine rs_aald C hH hT h71 ak_24 g72 d_Sp_chooseFor_81 (fun h73 => ?_)
          refine rs_getI C hH h73 fk_6_10 tw_274 d_Sp_chooseFor_82 ?_
          refine rs_cv (rs_runV C hH hT hl (J_Ch_offer l h59 h66 hF) rc_Ch_offer tw_423 tw_424 tw_425 h59 ⟨rfl, by decide, by decide⟩ rfl ⟨⟨rfl, rfl⟩, by decide, by decide, by decide⟩ (Nat.le_of_ble_eq_true rfl) rfl d_Sp_chooseFor_85) hS (fun σ74 H locs hH hT hS hF => ?_)
          obtain ⟨x75, ex75⟩ : ∃ z : Int32, z = x2 + (1 : Int32) := ⟨_, rfl⟩
          replace hF := hF x75 ex75
          refine lv_iinc hx hb d_Sp_chooseFor_88 hl (k := 2) rfl (v := x75) (by rw [ki_1, ex75]) (by decide) (lv' := [(2, .int x75), (0, .ref (Bm + v0)), (1, .int x1)]) rfl (fun ls hl => ?_)
          refine lv_goto hx hb d_Sp_chooseFor_91 (tgt := 16) rfl ?_
          exact hK16 v0 x1 x75 σ74 _ _ _ h_v0 hH hT hS (lv_sub hl [1, 2, 0] rfl) hF
abbrev y_Sp_chooseFor : MethodName := ({ cls := "RouteSpeaker", name := "chooseFor", desc := "(I)I" } : Jvm.MethodName)
theorem rc_Sp_chooseFor : rs_Cal y_Sp_chooseFor prog_1_method_27_code 3 (some .int) 1 := ⟨tw_384, tw_1, by decide, by decide, by decide +kernel⟩
set_option maxRecDepth 20000 in
theorem J_Sp_chooseFor (l : Launch) {G : rs_G} {Bm : Nat} {S : rs_Shp} {v0 : Nat} {x1 : Int32} {σ : rs_Mem} {Q : Int32 → rs_Mem → Prop} (h_v0 : rs_Ok S 1 v0) (hF : F_Sp_chooseFor S.2.2 v0 x1 σ Q) :
    Met l y_Sp_chooseFor (rs_ws y_Sp_chooseFor prog_1_method_27_code 3 (some .int)) { frames := 3, cells := 0, slots := 0, locals := 69 } (rs_P G Bm S σ [.ref (Bm + v0), .int x1]) (rs_Qi G Bm S Q) 0 0 (rs_A Bm) := by
  refine rs_met (own := "RouteSpeaker") (by decide) rfl (Nat.le_of_ble_eq_true rfl) (fun p e s m below meth c ls C hl hH hT hS => ?_)
  replace hl : lv_has ls 3 [(0, .ref (Bm + v0)), (1, .int x1)] := hl
  have hx := C.1
  have hb := C.2.1
  unfold F_Sp_chooseFor at hF
  refine lv_iload_n hx hb d_Sp_chooseFor_0 rfl (lv_at hl 1 rfl) ?_
  refine lv_iconst hx hb d_Sp_chooseFor_1 ki_m1 ?_
  refine lv_icmp_ne hx hb d_Sp_chooseFor_2 (tgt := 7) rfl (fun hc => ?_) (fun hc => ?_)
  · replace hF := hF.1 hc
    refine lv_aload_n hx hb d_Sp_chooseFor_7 rfl (lv_at hl 0 rfl) ?_
    refine rs_getR C hH hT h_v0 fk_1_4 tw_324 d_Sp_chooseFor_8 (fun h51 => ?_)
    refine rs_cv (rs_runV C hH hT hl (J_Ch_clear l h51 hF) rc_Ch_clear tw_385 tw_386 tw_387 h51 ⟨rfl, by decide, by decide⟩ rfl ⟨⟨rfl, rfl⟩, by decide, by decide, by decide⟩ (Nat.le_of_ble_eq_true rfl) rfl d_Sp_chooseFor_11) hS (fun σ52 H locs hH hT hS hF => ?_)
    refine lv_iconst hx hb d_Sp_chooseFor_14 ki_0 ?_
    refine lv_istore_n hx hb d_Sp_chooseFor_15 rfl hl (by decide) (lv' := [(2, .int (0 : Int32)), (0, .ref (Bm + v0)), (1, .int x1)]) rfl (fun ls hl => ?_)
    obtain ⟨n, hF⟩ := hF
    exact JL_Sp_chooseFor_16 C n v0 x1 (0 : Int32) σ52 _ _ _ h_v0 hH hT hS (lv_sub hl [1, 2, 0] rfl) hF
  · replace hF := hF.2 hc
    refine lv_iconst hx hb d_Sp_chooseFor_5 ki_m1 ?_
    exact rs_iret C hH hT hS hF d_Sp_chooseFor_6
/-! RouteSpeaker$Letter.setPrefix(II)V -/
theorem d_Le_setPrefix_0 : decode prog_4_method_2_code 0 = .ok (.aload_n 0, 1) := by decide +kernel
theorem d_Le_setPrefix_1 : decode prog_4_method_2_code 1 = .ok (.iload_n 1, 1) := by decide +kernel
theorem d_Le_setPrefix_2 : decode prog_4_method_2_code 2 = .ok (.putfield 15, 3) := by decide +kernel
theorem d_Le_setPrefix_5 : decode prog_4_method_2_code 5 = .ok (.aload_n 0, 1) := by decide +kernel
theorem d_Le_setPrefix_6 : decode prog_4_method_2_code 6 = .ok (.iload_n 2, 1) := by decide +kernel
theorem d_Le_setPrefix_7 : decode prog_4_method_2_code 7 = .ok (.putfield 19, 3) := by decide +kernel
theorem d_Le_setPrefix_10 : decode prog_4_method_2_code 10 = .ok (.return_, 1) := by decide +kernel
def F_Le_setPrefix (N : Nat → Nat) (v0 : Nat) (x1 : Int32) (x2 : Int32) (σ : rs_Mem) (Q : rs_Mem → Prop) : Prop :=
  (∀ σ51 : rs_Mem, σ51 = rs_sI σ v0 2 x1 → (∀ σ52 : rs_Mem, σ52 = rs_sI σ51 v0 3 x2 → (Q σ52)))
abbrev y_Le_setPrefix : MethodName := ({ cls := "RouteSpeaker$Letter", name := "setPrefix", desc := "(II)V" } : Jvm.MethodName)
theorem rc_Le_setPrefix : rs_Cal y_Le_setPrefix prog_4_method_2_code 3 none 2 := ⟨tw_450, tw_6, by decide, by decide, by decide +kernel⟩
set_option maxRecDepth 20000 in
theorem J_Le_setPrefix (l : Launch) {G : rs_G} {Bm : Nat} {S : rs_Shp} {v0 : Nat} {x1 : Int32} {x2 : Int32} {σ : rs_Mem} {Q : rs_Mem → Prop} (h_v0 : rs_Ok S 4 v0) (hF : F_Le_setPrefix S.2.2 v0 x1 x2 σ Q) :
    Met l y_Le_setPrefix (rs_ws y_Le_setPrefix prog_4_method_2_code 3 none) { frames := 0, cells := 0, slots := 0, locals := 0 } (rs_P G Bm S σ [.ref (Bm + v0), .int x1, .int x2]) (rs_Qv G Bm S Q) 0 0 (rs_A Bm) := by
  refine rs_met (own := "RouteSpeaker$Letter") (by decide) rfl (Nat.le_of_ble_eq_true rfl) (fun p e s m below meth c ls C hl hH hT hS => ?_)
  replace hl : lv_has ls 3 [(0, .ref (Bm + v0)), (1, .int x1), (2, .int x2)] := hl
  have hx := C.1
  have hb := C.2.1
  unfold F_Le_setPrefix at hF
  refine lv_aload_n hx hb d_Le_setPrefix_0 rfl (lv_at hl 0 rfl) ?_
  refine lv_iload_n hx hb d_Le_setPrefix_1 rfl (lv_at hl 1 rfl) ?_
  refine rs_putI C hH hT hS h_v0 fk_4_2 rfl tw_176 d_Le_setPrefix_2 (fun σ51 H locs eσ51 hH hT hS => ?_)
  replace hF := hF σ51 eσ51
  refine lv_aload_n hx hb d_Le_setPrefix_5 rfl (lv_at hl 0 rfl) ?_
  refine lv_iload_n hx hb d_Le_setPrefix_6 rfl (lv_at hl 2 rfl) ?_
  refine rs_putI C hH hT hS h_v0 fk_4_3 rfl tw_177 d_Le_setPrefix_7 (fun σ52 H locs eσ52 hH hT hS => ?_)
  replace hF := hF σ52 eσ52
  exact rs_vret C hH hT hS hF d_Le_setPrefix_10
/-! RouteSpeaker$Peer.isUp()Z -/
theorem d_Pe_isUp_0 : decode prog_6_method_3_code 0 = .ok (.aload_n 0, 1) := by decide +kernel
theorem d_Pe_isUp_1 : decode prog_6_method_3_code 1 = .ok (.getfield 51, 3) := by decide +kernel
theorem d_Pe_isUp_4 : decode prog_6_method_3_code 4 = .ok (.iconst 3, 1) := by decide +kernel
theorem d_Pe_isUp_5 : decode prog_6_method_3_code 5 = .ok (.if_icmp .ne (7), 3) := by decide +kernel
theorem d_Pe_isUp_8 : decode prog_6_method_3_code 8 = .ok (.iconst 1, 1) := by decide +kernel
theorem d_Pe_isUp_9 : decode prog_6_method_3_code 9 = .ok (.goto (4), 3) := by decide +kernel
theorem d_Pe_isUp_12 : decode prog_6_method_3_code 12 = .ok (.iconst 0, 1) := by decide +kernel
theorem d_Pe_isUp_13 : decode prog_6_method_3_code 13 = .ok (.ireturn, 1) := by decide +kernel
def F_Pe_isUp (N : Nat → Nat) (v0 : Nat) (σ : rs_Mem) (Q : Int32 → rs_Mem → Prop) : Prop :=
  ((¬ ((rs_I σ v0 6) = (3 : Int32)) → (Q (0 : Int32) σ)) ∧ ((rs_I σ v0 6) = (3 : Int32) → (Q (1 : Int32) σ)))
abbrev y_Pe_isUp : MethodName := ({ cls := "RouteSpeaker$Peer", name := "isUp", desc := "()Z" } : Jvm.MethodName)
theorem rc_Pe_isUp : rs_Cal y_Pe_isUp prog_6_method_3_code 1 (some .boolean) 0 := ⟨tw_454, tw_7, by decide, by decide, by decide +kernel⟩
set_option maxRecDepth 20000 in
theorem J_Pe_isUp (l : Launch) {G : rs_G} {Bm : Nat} {S : rs_Shp} {v0 : Nat} {σ : rs_Mem} {Q : Int32 → rs_Mem → Prop} (h_v0 : rs_Ok S 6 v0) (hF : F_Pe_isUp S.2.2 v0 σ Q) :
    Met l y_Pe_isUp (rs_ws y_Pe_isUp prog_6_method_3_code 1 (some .boolean)) { frames := 0, cells := 0, slots := 0, locals := 0 } (rs_P G Bm S σ [.ref (Bm + v0)]) (rs_Qi G Bm S Q) 0 0 (rs_A Bm) := by
  refine rs_met (own := "RouteSpeaker$Peer") (by decide) rfl (Nat.le_of_ble_eq_true rfl) (fun p e s m below meth c ls C hl hH hT hS => ?_)
  replace hl : lv_has ls 1 [(0, .ref (Bm + v0))] := hl
  have hx := C.1
  have hb := C.2.1
  unfold F_Pe_isUp at hF
  refine lv_aload_n hx hb d_Pe_isUp_0 rfl (lv_at hl 0 rfl) ?_
  refine rs_getI C hH h_v0 fk_6_6 tw_266 d_Pe_isUp_1 ?_
  refine lv_iconst hx hb d_Pe_isUp_4 ki_3 ?_
  refine lv_icmp_ne hx hb d_Pe_isUp_5 (tgt := 12) rfl (fun hc => ?_) (fun hc => ?_)
  · replace hF := hF.1 hc
    refine lv_iconst hx hb d_Pe_isUp_12 ki_0 ?_
    exact rs_zret C hH hT hS (by decide) hF d_Pe_isUp_13
  · replace hF := hF.2 hc
    refine lv_iconst hx hb d_Pe_isUp_8 ki_1 ?_
    refine lv_goto hx hb d_Pe_isUp_9 (tgt := 13) rfl ?_
    exact rs_zret C hH hT hS (by decide) hF d_Pe_isUp_13
/-! RouteSpeaker$Peer.isMuteFor(II)Z -/
theorem d_Pe_isMuteFor_0 : decode prog_6_method_4_code 0 = .ok (.aload_n 0, 1) := by decide +kernel
theorem d_Pe_isMuteFor_1 : decode prog_6_method_4_code 1 = .ok (.getfield 9, 3) := by decide +kernel
theorem d_Pe_isMuteFor_4 : decode prog_6_method_4_code 4 = .ok (.iconst (-1), 1) := by decide +kernel
theorem d_Pe_isMuteFor_5 : decode prog_6_method_4_code 5 = .ok (.if_icmp .eq (23), 3) := by decide +kernel
theorem d_Pe_isMuteFor_8 : decode prog_6_method_4_code 8 = .ok (.iload_n 1, 1) := by decide +kernel
theorem d_Pe_isMuteFor_9 : decode prog_6_method_4_code 9 = .ok (.iload_n 2, 1) := by decide +kernel
theorem d_Pe_isMuteFor_10 : decode prog_6_method_4_code 10 = .ok (.aload_n 0, 1) := by decide +kernel
theorem d_Pe_isMuteFor_11 : decode prog_6_method_4_code 11 = .ok (.getfield 9, 3) := by decide +kernel
theorem d_Pe_isMuteFor_14 : decode prog_6_method_4_code 14 = .ok (.aload_n 0, 1) := by decide +kernel
theorem d_Pe_isMuteFor_15 : decode prog_6_method_4_code 15 = .ok (.getfield 54, 3) := by decide +kernel
theorem d_Pe_isMuteFor_18 : decode prog_6_method_4_code 18 = .ok (.invokestatic 57, 3) := by decide +kernel
theorem d_Pe_isMuteFor_21 : decode prog_6_method_4_code 21 = .ok (.ifCond .eq (7), 3) := by decide +kernel
theorem d_Pe_isMuteFor_24 : decode prog_6_method_4_code 24 = .ok (.iconst 1, 1) := by decide +kernel
theorem d_Pe_isMuteFor_25 : decode prog_6_method_4_code 25 = .ok (.goto (4), 3) := by decide +kernel
theorem d_Pe_isMuteFor_28 : decode prog_6_method_4_code 28 = .ok (.iconst 0, 1) := by decide +kernel
theorem d_Pe_isMuteFor_29 : decode prog_6_method_4_code 29 = .ok (.ireturn, 1) := by decide +kernel
def F_Pe_isMuteFor (N : Nat → Nat) (v0 : Nat) (x1 : Int32) (x2 : Int32) (σ : rs_Mem) (Q : Int32 → rs_Mem → Prop) : Prop :=
  (((rs_I σ v0 3) = (-1 : Int32) → (Q (0 : Int32) σ)) ∧ (¬ ((rs_I σ v0 3) = (-1 : Int32)) → (F_Sp_isWithin N x1 x2 (rs_I σ v0 3) (rs_I σ v0 4) σ (fun x52 σ51 => ((x52 = 0 → (Q (0 : Int32) σ51)) ∧ (¬ (x52 = 0) → (Q (1 : Int32) σ51)))))))
abbrev y_Pe_isMuteFor : MethodName := ({ cls := "RouteSpeaker$Peer", name := "isMuteFor", desc := "(II)Z" } : Jvm.MethodName)
theorem rc_Pe_isMuteFor : rs_Cal y_Pe_isMuteFor prog_6_method_4_code 3 (some .boolean) 2 := ⟨tw_466, tw_7, by decide, by decide, by decide +kernel⟩
set_option maxRecDepth 20000 in
theorem J_Pe_isMuteFor (l : Launch) {G : rs_G} {Bm : Nat} {S : rs_Shp} {v0 : Nat} {x1 : Int32} {x2 : Int32} {σ : rs_Mem} {Q : Int32 → rs_Mem → Prop} (h_v0 : rs_Ok S 6 v0) (hF : F_Pe_isMuteFor S.2.2 v0 x1 x2 σ Q) :
    Met l y_Pe_isMuteFor (rs_ws y_Pe_isMuteFor prog_6_method_4_code 3 (some .boolean)) { frames := 1, cells := 0, slots := 0, locals := 23 } (rs_P G Bm S σ [.ref (Bm + v0), .int x1, .int x2]) (rs_Qi G Bm S Q) 0 0 (rs_A Bm) := by
  refine rs_met (own := "RouteSpeaker$Peer") (by decide) rfl (Nat.le_of_ble_eq_true rfl) (fun p e s m below meth c ls C hl hH hT hS => ?_)
  replace hl : lv_has ls 3 [(0, .ref (Bm + v0)), (1, .int x1), (2, .int x2)] := hl
  have hx := C.1
  have hb := C.2.1
  unfold F_Pe_isMuteFor at hF
  refine lv_aload_n hx hb d_Pe_isMuteFor_0 rfl (lv_at hl 0 rfl) ?_
  refine rs_getI C hH h_v0 fk_6_3 tw_260 d_Pe_isMuteFor_1 ?_
  refine lv_iconst hx hb d_Pe_isMuteFor_4 ki_m1 ?_
  refine lv_icmp_eq hx hb d_Pe_isMuteFor_5 (tgt := 28) rfl (fun hc => ?_) (fun hc => ?_)
  · replace hF := hF.1 hc
    refine lv_iconst hx hb d_Pe_isMuteFor_28 ki_0 ?_
    exact rs_zret C hH hT hS (by decide) hF d_Pe_isMuteFor_29
  · replace hF := hF.2 hc
    refine lv_iload_n hx hb d_Pe_isMuteFor_8 rfl (lv_at hl 1 rfl) ?_
    refine lv_iload_n hx hb d_Pe_isMuteFor_9 rfl (lv_at hl 2 rfl) ?_
    refine lv_aload_n hx hb d_Pe_isMuteFor_10 rfl (lv_at hl 0 rfl) ?_
    refine rs_getI C hH h_v0 fk_6_3 tw_260 d_Pe_isMuteFor_11 ?_
    refine lv_aload_n hx hb d_Pe_isMuteFor_14 rfl (lv_at hl 0 rfl) ?_
    refine rs_getI C hH h_v0 fk_6_4 tw_262 d_Pe_isMuteFor_15 ?_
    refine rs_ci (rs_runSN C hH hT hl (J_Sp_isWithin l hF) rc_Sp_isWithin (host := "RouteSpeaker") nw_1 tw_409 rfl ⟨⟨rfl, rfl⟩, by decide, by decide, by decide⟩ (Nat.le_of_ble_eq_true rfl) rfl d_Pe_isMuteFor_18) hS (fun x52 σ51 H locs hH hT hS hF => ?_)
    refine lv_if_eq hx hb d_Pe_isMuteFor_21 (tgt := 28) rfl (fun hc => ?_) (fun hc => ?_)
    · replace hF := hF.1 hc
      refine lv_iconst hx hb d_Pe_isMuteFor_28 ki_0 ?_
      exact rs_zret C hH hT hS (by decide) hF d_Pe_isMuteFor_29
    · replace hF := hF.2 hc
      refine lv_iconst hx hb d_Pe_isMuteFor_24 ki_1 ?_
      refine lv_goto hx hb d_Pe_isMuteFor_25 (tgt := 29) rfl ?_
      exact rs_zret C hH hT hS (by decide) hF d_Pe_isMuteFor_29
/-! RouteSpeaker.isMeantFor(III)Z -/
theorem d_Sp_isMeantFor_0 : decode prog_1_method_31_code 0 = .ok (.iload_n 3, 1) := by decide +kernel
theorem d_Sp_isMeantFor_1 : decode prog_1_method_31_code 1 = .ok (.iconst (-1), 1) := by decide +kernel
theorem d_Sp_isMeantFor_2 : decode prog_1_method_31_code 2 = .ok (.if_icmp .eq (8), 3) := by decide +kernel
theorem d_Sp_isMeantFor_5 : decode prog_1_method_31_code 5 = .ok (.iload_n 3, 1) := by decide +kernel
theorem d_Sp_isMeantFor_6 : decode prog_1_method_31_code 6 = .ok (.iload_n 1, 1) := by decide +kernel
theorem d_Sp_isMeantFor_7 : decode prog_1_method_31_code 7 = .ok (.if_icmp .ne (5), 3) := by decide +kernel
theorem d_Sp_isMeantFor_10 : decode prog_1_method_31_code 10 = .ok (.iconst 0, 1) := by decide +kernel
theorem d_Sp_isMeantFor_11 : decode prog_1_method_31_code 11 = .ok (.ireturn, 1) := by decide +kernel
theorem d_Sp_isMeantFor_12 : decode prog_1_method_31_code 12 = .ok (.iload_n 3, 1) := by decide +kernel
theorem d_Sp_isMeantFor_13 : decode prog_1_method_31_code 13 = .ok (.iconst 4, 1) := by decide +kernel
theorem d_Sp_isMeantFor_14 : decode prog_1_method_31_code 14 = .ok (.if_icmp .eq (31), 3) := by decide +kernel
theorem d_Sp_isMeantFor_17 : decode prog_1_method_31_code 17 = .ok (.aload_n 0, 1) := by decide +kernel
theorem d_Sp_isMeantFor_18 : decode prog_1_method_31_code 18 = .ok (.getfield 18, 3) := by decide +kernel
theorem d_Sp_isMeantFor_21 : decode prog_1_method_31_code 21 = .ok (.iload_n 3, 1) := by decide +kernel
theorem d_Sp_isMeantFor_22 : decode prog_1_method_31_code 22 = .ok (.aaload, 1) := by decide +kernel
theorem d_Sp_isMeantFor_23 : decode prog_1_method_31_code 23 = .ok (.getfield 74, 3) := by decide +kernel
theorem d_Sp_isMeantFor_26 : decode prog_1_method_31_code 26 = .ok (.iconst 2, 1) := by decide +kernel
theorem d_Sp_isMeantFor_27 : decode prog_1_method_31_code 27 = .ok (.if_icmp .ne (18), 3) := by decide +kernel
theorem d_Sp_isMeantFor_30 : decode prog_1_method_31_code 30 = .ok (.aload_n 0, 1) := by decide +kernel
theorem d_Sp_isMeantFor_31 : decode prog_1_method_31_code 31 = .ok (.getfield 18, 3) := by decide +kernel
theorem d_Sp_isMeantFor_34 : decode prog_1_method_31_code 34 = .ok (.iload_n 1, 1) := by decide +kernel
theorem d_Sp_isMeantFor_35 : decode prog_1_method_31_code 35 = .ok (.aaload, 1) := by decide +kernel
theorem d_Sp_isMeantFor_36 : decode prog_1_method_31_code 36 = .ok (.getfield 74, 3) := by decide +kernel
theorem d_Sp_isMeantFor_39 : decode prog_1_method_31_code 39 = .ok (.iconst 2, 1) := by decide +kernel
theorem d_Sp_isMeantFor_40 : decode prog_1_method_31_code 40 = .ok (.if_icmp .ne (5), 3) := by decide +kernel
theorem d_Sp_isMeantFor_43 : decode prog_1_method_31_code 43 = .ok (.iconst 0, 1) := by decide +kernel
theorem d_Sp_isMeantFor_44 : decode prog_1_method_31_code 44 = .ok (.ireturn, 1) := by decide +kernel
theorem d_Sp_isMeantFor_45 : decode prog_1_method_31_code 45 = .ok (.aload_n 0, 1) := by decide +kernel
theorem d_Sp_isMeantFor_46 : decode prog_1_method_31_code 46 = .ok (.getfield 18, 3) := by decide +kernel
theorem d_Sp_isMeantFor_49 : decode prog_1_method_31_code 49 = .ok (.iload_n 1, 1) := by decide +kernel
theorem d_Sp_isMeantFor_50 : decode prog_1_method_31_code 50 = .ok (.aaload, 1) := by decide +kernel
theorem d_Sp_isMeantFor_51 : decode prog_1_method_31_code 51 = .ok (.aload_n 0, 1) := by decide +kernel
theorem d_Sp_isMeantFor_52 : decode prog_1_method_31_code 52 = .ok (.getfield 10, 3) := by decide +kernel
theorem d_Sp_isMeantFor_55 : decode prog_1_method_31_code 55 = .ok (.getfield 208, 3) := by decide +kernel
theorem d_Sp_isMeantFor_58 : decode prog_1_method_31_code 58 = .ok (.iload_n 2, 1) := by decide +kernel
theorem d_Sp_isMeantFor_59 : decode prog_1_method_31_code 59 = .ok (.iaload, 1) := by decide +kernel
theorem d_Sp_isMeantFor_60 : decode prog_1_method_31_code 60 = .ok (.aload_n 0, 1) := by decide +kernel
theorem d_Sp_isMeantFor_61 : decode prog_1_method_31_code 61 = .ok (.getfield 10, 3) := by decide +kernel
theorem d_Sp_isMeantFor_64 : decode prog_1_method_31_code 64 = .ok (.getfield 212, 3) := by decide +kernel
theorem d_Sp_isMeantFor_67 : decode prog_1_method_31_code 67 = .ok (.iload_n 2, 1) := by decide +kernel
theorem d_Sp_isMeantFor_68 : decode prog_1_method_31_code 68 = .ok (.iaload, 1) := by decide +kernel
theorem d_Sp_isMeantFor_69 : decode prog_1_method_31_code 69 = .ok (.invokevirtual 273, 3) := by decide +kernel
theorem d_Sp_isMeantFor_72 : decode prog_1_method_31_code 72 = .ok (.ifCond .ne (7), 3) := by decide +kernel
theorem d_Sp_isMeantFor_75 : decode prog_1_method_31_code 75 = .ok (.iconst 1, 1) := by decide +kernel
theorem d_Sp_isMeantFor_76 : decode prog_1_method_31_code 76 = .ok (.goto (4), 3) := by decide +kernel
theorem d_Sp_isMeantFor_79 : decode prog_1_method_31_code 79 = .ok (.iconst 0, 1) := by decide +kernel
theorem d_Sp_isMeantFor_80 : decode prog_1_method_31_code 80 = .ok (.ireturn, 1) := by decide +kernel
def B_Sp_isMeantFor_45 (N : Nat → Nat) (Q : Int32 → rs_Mem → Prop) (v0 : Nat) (x1 : Int32) (x2 : Int32) (σ : rs_Mem) : Prop :=
  (vp_in x1 (N (rs_R σ v0 1)) ∧ (vp_in x2 (N (rs_R σ (rs_R σ v0 0) 0)) ∧ (vp_in x2 (N (rs_R σ (rs_R σ v0 0) 1)) ∧ (F_Pe_isMuteFor N (rs_R σ (rs_R σ v0 1) x1.toNatClampNeg) (rs_I σ (rs_R σ (rs_R σ v0 0) 0) x2.toNatClampNeg) (rs_I σ (rs_R σ (rs_R σ v0 0) 1) x2.toNatClampNeg) σ (fun x61 σ60 => ((¬ (x61 = 0) → (Q (0 : Int32) σ60)) ∧ (x61 = 0 → (Q (1 : Int32) σ60))))))))
def F_Sp_isMeantFor (N : Nat → Nat) (v0 : Nat) (x1 : Int32) (x2 : Int32) (x3 : Int32) (σ : rs_Mem) (Q : Int32 → rs_Mem → Prop) : Prop :=
  ((x3 = (-1 : Int32) → (Q (0 : Int32) σ)) ∧ (¬ (x3 = (-1 : Int32)) → ((¬ (x3 = x1) → ((x3 = (4 : Int32) → (B_Sp_isMeantFor_45 N Q v0 x1 x2 σ)) ∧ (¬ (x3 = (4 : Int32)) → (vp_in x3 (N (rs_R σ v0 1)) ∧ ((¬ ((rs_I σ (rs_R σ (rs_R σ v0 1) x3.toNatClampNeg) 0) = (2 : Int32)) → (B_Sp_isMeantFor_45 N Q v0 x1 x2 σ)) ∧ ((rs_I σ (rs_R σ (rs_R σ v0 1) x3.toNatClampNeg) 0) = (2 : Int32) → (vp_in x1 (N (rs_R σ v0 1)) ∧ ((¬ ((rs_I σ (rs_R σ (rs_R σ v0 1) x1.toNatClampNeg) 0) = (2 : Int32)) → (B_Sp_isMeantFor_45 N Q v0 x1 x2 σ)) ∧ ((rs_I σ (rs_R σ (rs_R σ v0 1) x1.toNatClampNeg) 0) = (2 : Int32) → (Q (0 : Int32) σ)))))))))) ∧ (x3 = x1 → (Q (0 : Int32) σ)))))
set_option maxRecDepth 20000 in
theorem JB_Sp_isMeantFor_45 {p : Program} {l : Launch} {e : Env} {s : State} {m : MethodId} {args : Array Value} {below : List Frame} {meth : Method} {c : Code} {G : rs_G} {Bm : Nat} {S : rs_Shp} {Q : Int32 → rs_Mem → Prop} (C : rs_C "RouteSpeaker" prog_1_method_31_code 4 (some .boolean) G p s m meth c args) (v0 : Nat) (x1 : Int32) (x2 : Int32) (σ : rs_Mem) (H : Heap) (locs : List Loc) (ls : Array Slot) (h_v0 : rs_Ok S 1 v0) (hH : rs_H G Bm S σ H) (hT : rs_T S σ) (hS : va_S (rs_A Bm) s.heap H locs) (hl : lv_has ls 4 [(0, .ref (Bm + v0)), (1, .int x1), (2, .int x2)]) (hF : B_Sp_isMeantFor_45 S.2.2 Q v0 x1 x2 σ) :
    W p l e { frames := 2, cells := 0, slots := 0, locals := 45 } s m args below meth c H locs 0 0 (MQ below (rs_Qi G Bm S Q) args s 0 0 (rs_A Bm)) (F0 m 45 ls []) := by
  have hx := C.1
  have hb := C.2.1
  unfold B_Sp_isMeantFor_45 at hF
  refine lv_aload_n hx hb d_Sp_isMeantFor_45 rfl (lv_at hl 0 rfl) ?_
  refine rs_getR C hH hT h_v0 fk_1_1 tw_321 d_Sp_isMeantFor_46 (fun h51 => ?_)
  refine lv_iload_n hx hb d_Sp_isMeantFor_49 rfl (lv_at hl 1 rfl) ?_
  obtain ⟨g52, hF⟩ := hF
  refine rs_aald C hH hT h51 ak_24 g52 d_Sp_isMeantFor_50 (fun h53 => ?_)
  refine lv_aload_n hx hb d_Sp_isMeantFor_51 rfl (lv_at hl 0 rfl) ?_
  refine rs_getR C hH hT h_v0 fk_1_0 tw_320 d_Sp_isMeantFor_52 (fun h54 => ?_)
  refine rs_getR C hH hT h54 fk_7_0 tw_35 d_Sp_isMeantFor_55 (fun h55 => ?_)
  refine lv_iload_n hx hb d_Sp_isMeantFor_58 rfl (lv_at hl 2 rfl) ?_
  obtain ⟨g56, hF⟩ := hF
  refine rs_iald C hH h55 g56 d_Sp_isMeantFor_59 ?_
  refine lv_aload_n hx hb d_Sp_isMeantFor_60 rfl (lv_at hl 0 rfl) ?_
  refine rs_getR C hH hT h_v0 fk_1_0 tw_320 d_Sp_isMeantFor_61 (fun h57 => ?_)
  refine rs_getR C hH hT h57 fk_7_1 tw_37 d_Sp_isMeantFor_64 (fun h58 => ?_)
  refine lv_iload_n hx hb d_Sp_isMeantFor_67 rfl (lv_at hl 2 rfl) ?_
  obtain ⟨g59, hF⟩ := hF
  refine rs_iald C hH h58 g59 d_Sp_isMeantFor_68 ?_
  refine rs_ci (rs_runV C hH hT hl (J_Pe_isMuteFor l h53 hF) rc_Pe_isMuteFor tw_463 tw_464 tw_465 h53 ⟨rfl, by decide, by decide⟩ rfl ⟨⟨rfl, rfl⟩, by decide, by decide, by decide⟩ (Nat.le_of_ble_eq_true rfl) rfl d_Sp_isMeantFor_69) hS (fun x61 σ60 H locs hH hT hS hF => ?_)
  refine lv_if_ne hx hb d_Sp_isMeantFor_72 (tgt := 79) rfl (fun hc => ?_) (fun hc => ?_)
  · replace hF := hF.1 hc
    refine lv_iconst hx hb d_Sp_isMeantFor_79 ki_0 ?_
    exact rs_zret C hH hT hS (by decide) hF d_Sp_isMeantFor_80
  · replace hF := hF.2 hc
    refine lv_iconst hx hb d_Sp_isMeantFor_75 ki_1 ?_
    refine lv_goto hx hb d_Sp_isMeantFor_76 (tgt := 80) rfl ?_
    exact rs_zret C hH hT hS (by decide) hF d_Sp_isMeantFor_80
abbrev y_Sp_isMeantFor : MethodName := ({ cls := "RouteSpeaker", name := "isMeantFor", desc := "(III)Z" } : Jvm.MethodName)
theorem rc_Sp_isMeantFor : rs_Cal y_Sp_isMeantFor prog_1_method_31_code 4 (some .boolean) 3 := ⟨tw_462, tw_1, by decide, by decide, by decide +kernel⟩
set_option maxRecDepth 20000 in
theorem J_Sp_isMeantFor (l : Launch) {G : rs_G} {Bm : Nat} {S : rs_Shp} {v0 : Nat} {x1 : Int32} {x2 : Int32} {x3 : Int32} {σ : rs_Mem} {Q : Int32 → rs_Mem → Prop} (h_v0 : rs_Ok S 1 v0) (hF : F_Sp_isMeantFor S.2.2 v0 x1 x2 x3 σ Q) :
    Met l y_Sp_isMeantFor (rs_ws y_Sp_isMeantFor prog_1_method_31_code 4 (some .boolean)) { frames := 2, cells := 0, slots := 0, locals := 45 } (rs_P G Bm S σ [.ref (Bm + v0), .int x1, .int x2, .int x3]) (rs_Qi G Bm S Q) 0 0 (rs_A Bm) := by
  refine rs_met (own := "RouteSpeaker") (by decide) rfl (Nat.le_of_ble_eq_true rfl) (fun p e s m below meth c ls C hl hH hT hS => ?_)
  replace hl : lv_has ls 4 [(0, .ref (Bm + v0)), (1, .int x1), (2, .int x2), (3, .int x3)] := hl
  have hx := C.1
  have hb := C.2.1
  unfold F_Sp_isMeantFor at hF
  refine lv_iload_n hx hb d_Sp_isMeantFor_0 rfl (lv_at hl 3 rfl) ?_
  refine lv_iconst hx hb d_Sp_isMeantFor_1 ki_m1 ?_
  refine lv_icmp_eq hx hb d_Sp_isMeantFor_2 (tgt := 10) rfl (fun hc => ?_) (fun hc => ?_)
  · replace hF := hF.1 hc
    refine lv_iconst hx hb d_Sp_isMeantFor_10 ki_0 ?_
    exact rs_zret C hH hT hS (by decide) hF d_Sp_isMeantFor_11
  · replace hF := hF.2 hc
    refine lv_iload_n hx hb d_Sp_isMeantFor_5 rfl (lv_at hl 3 rfl) ?_
    refine lv_iload_n hx hb d_Sp_isMeantFor_6 rfl (lv_at hl 1 rfl) ?_
    refine lv_icmp_ne hx hb d_Sp_isMeantFor_7 (tgt := 12) rfl (fun hc => ?_) (fun hc => ?_)
    · replace hF := hF.1 hc
      refine lv_iload_n hx hb d_Sp_isMeantFor_12 rfl (lv_at hl 3 rfl) ?_
      refine lv_iconst hx hb d_Sp_isMeantFor_13 ki_4 ?_
      refine lv_icmp_eq hx hb d_Sp_isMeantFor_14 (tgt := 45) rfl (fun hc => ?_) (fun hc => ?_)
      · replace hF := hF.1 hc
        exact JB_Sp_isMeantFor_45 C v0 x1 x2 σ _ _ _ h_v0 hH hT hS (lv_sub hl [0, 1, 2] rfl) hF
      · replace hF := hF.2 hc
        refine lv_aload_n hx hb d_Sp_isMeantFor_17 rfl (lv_at hl 0 rfl) ?_
        refine rs_getR C hH hT h_v0 fk_1_1 tw_321 d_Sp_isMeantFor_18 (fun h51 => ?_)
        refine lv_iload_n hx hb d_Sp_isMeantFor_21 rfl (lv_at hl 3 rfl) ?_
        obtain ⟨g52, hF⟩ := hF
        refine rs_aald C hH hT h51 ak_24 g52 d_Sp_isMeantFor_22 (fun h53 => ?_)
        refine rs_getI C hH h53 fk_6_0 tw_255 d_Sp_isMeantFor_23 ?_
        refine lv_iconst hx hb d_Sp_isMeantFor_26 ki_2 ?_
        refine lv_icmp_ne hx hb d_Sp_isMeantFor_27 (tgt := 45) rfl (fun hc => ?_) (fun hc => ?_)
        · replace hF := hF.1 hc
          exact JB_Sp_isMeantFor_45 C v0 x1 x2 σ _ _ _ h_v0 hH hT hS (lv_sub hl [0, 1, 2] rfl) hF
        · replace hF := hF.2 hc
          refine lv_aload_n hx hb d_Sp_isMeantFor_30 rfl (lv_at hl 0 rfl) ?_
          refine rs_getR C hH hT h_v0 fk_1_1 tw_321 d_Sp_isMeantFor_31 (fun h54 => ?_)
          refine lv_iload_n hx hb d_Sp_isMeantFor_34 rfl (lv_at hl 1 rfl) ?_
          obtain ⟨g55, hF⟩ := hF
          refine rs_aald C hH hT h54 ak_24 g55 d_Sp_isMeantFor_35 (fun h56 => ?_)
          refine rs_getI C hH h56 fk_6_0 tw_255 d_Sp_isMeantFor_36 ?_
          refine lv_iconst hx hb d_Sp_isMeantFor_39 ki_2 ?_
          refine lv_icmp_ne hx hb d_Sp_isMeantFor_40 (tgt := 45) rfl (fun hc => ?_) (fun hc => ?_)
          · replace hF := hF.1 hc
            exact JB_Sp_isMeantFor_45 C v0 x1 x2 σ _ _ _ h_v0 hH hT hS (lv_sub hl [0, 1, 2] rfl) hF
          · replace hF := hF.2 hc
            refine lv_iconst hx hb d_Sp_isMeantFor_43 ki_0 ?_
            exact rs_zret C hH hT hS (by decide) hF d_Sp_isMeantFor_44
    · replace hF := hF.2 hc
      refine lv_iconst hx hb d_Sp_isMeantFor_10 ki_0 ?_
      exact rs_zret C hH hT hS (by decide) hF d_Sp_isMeantFor_11
/-! RouteSpeaker$Letter.begin(I)V -/
theorem d_Le_begin_0 : decode prog_4_method_6_code 0 = .ok (.aload_n 0, 1) := by decide +kernel
theorem d_Le_begin_1 : decode prog_4_method_6_code 1 = .ok (.getfield 9, 3) := by decide +kernel
theorem d_Le_begin_4 : decode prog_4_method_6_code 4 = .ok (.iconst 1, 1) := by decide +kernel
theorem d_Le_begin_5 : decode prog_4_method_6_code 5 = .ok (.iconst 2, 1) := by decide +kernel
theorem d_Le_begin_6 : decode prog_4_method_6_code 6 = .ok (.iastore, 1) := by decide +kernel
theorem d_Le_begin_7 : decode prog_4_method_6_code 7 = .ok (.aload_n 0, 1) := by decide +kernel
theorem d_Le_begin_8 : decode prog_4_method_6_code 8 = .ok (.getfield 9, 3) := by decide +kernel
theorem d_Le_begin_11 : decode prog_4_method_6_code 11 = .ok (.iconst 2, 1) := by decide +kernel
theorem d_Le_begin_12 : decode prog_4_method_6_code 12 = .ok (.iload_n 1, 1) := by decide +kernel
theorem d_Le_begin_13 : decode prog_4_method_6_code 13 = .ok (.iastore, 1) := by decide +kernel
theorem d_Le_begin_14 : decode prog_4_method_6_code 14 = .ok (.aload_n 0, 1) := by decide +kernel
theorem d_Le_begin_15 : decode prog_4_method_6_code 15 = .ok (.iconst 3, 1) := by decide +kernel
theorem d_Le_begin_16 : decode prog_4_method_6_code 16 = .ok (.putfield 67, 3) := by decide +kernel
theorem d_Le_begin_19 : decode prog_4_method_6_code 19 = .ok (.return_, 1) := by decide +kernel
def F_Le_begin (N : Nat → Nat) (v0 : Nat) (x1 : Int32) (σ : rs_Mem) (Q : rs_Mem → Prop) : Prop :=
  (vp_in (1 : Int32) (N (rs_R σ v0 0)) ∧ ∀ σ53 : rs_Mem, σ53 = rs_sI σ (rs_R σ v0 0) (1 : Int32).toNatClampNeg (2 : Int32) → (vp_in (2 : Int32) (N (rs_R σ53 v0 0)) ∧ ∀ σ56 : rs_Mem, σ56 = rs_sI σ53 (rs_R σ53 v0 0) (2 : Int32).toNatClampNeg x1 → (∀ σ57 : rs_Mem, σ57 = rs_sI σ56 v0 1 (3 : Int32) → (Q σ57))))
abbrev y_Le_begin : MethodName := ({ cls := "RouteSpeaker$Letter", name := "begin", desc := "(I)V" } : Jvm.MethodName)
theorem rc_Le_begin : rs_Cal y_Le_begin prog_4_method_6_code 2 none 1 := ⟨tw_475, tw_6, by decide, by decide, by decide +kernel⟩
set_option maxRecDepth 20000 in
theorem J_Le_begin (l : Launch) {G : rs_G} {Bm : Nat} {S : rs_Shp} {v0 : Nat} {x1 : Int32} {σ : rs_Mem} {Q : rs_Mem → Prop} (h_v0 : rs_Ok S 4 v0) (hF : F_Le_begin S.2.2 v0 x1 σ Q) :
    Met l y_Le_begin (rs_ws y_Le_begin prog_4_method_6_code 2 none) { frames := 0, cells := 0, slots := 0, locals := 0 } (rs_P G Bm S σ [.ref (Bm + v0), .int x1]) (rs_Qv G Bm S Q) 0 0 (rs_A Bm) := by
  refine rs_met (own := "RouteSpeaker$Letter") (by decide) rfl (Nat.le_of_ble_eq_true rfl) (fun p e s m below meth c ls C hl hH hT hS => ?_)
  replace hl : lv_has ls 2 [(0, .ref (Bm + v0)), (1, .int x1)] := hl
  have hx := C.1
  have hb := C.2.1
  unfold F_Le_begin at hF
  refine lv_aload_n hx hb d_Le_begin_0 rfl (lv_at hl 0 rfl) ?_
  refine rs_getR C hH hT h_v0 fk_4_0 tw_172 d_Le_begin_1 (fun h51 => ?_)
  refine lv_iconst hx hb d_Le_begin_4 ki_1 ?_
  refine lv_iconst hx hb d_Le_begin_5 ki_2 ?_
  obtain ⟨g52, hF⟩ := hF
  refine rs_iast C hH hT hS h51 g52 d_Le_begin_6 (fun σ53 H locs eσ53 hH hT hS => ?_)
  replace hF := hF σ53 eσ53
  refine lv_aload_n hx hb d_Le_begin_7 rfl (lv_at hl 0 rfl) ?_
  refine rs_getR C hH hT h_v0 fk_4_0 tw_172 d_Le_begin_8 (fun h54 => ?_)
  refine lv_iconst hx hb d_Le_begin_11 ki_2 ?_
  refine lv_iload_n hx hb d_Le_begin_12 rfl (lv_at hl 1 rfl) ?_
  obtain ⟨g55, hF⟩ := hF
  refine rs_iast C hH hT hS h54 g55 d_Le_begin_13 (fun σ56 H locs eσ56 hH hT hS => ?_)
  replace hF := hF σ56 eσ56
  refine lv_aload_n hx hb d_Le_begin_14 rfl (lv_at hl 0 rfl) ?_
  refine lv_iconst hx hb d_Le_begin_15 ki_3 ?_
  refine rs_putI C hH hT hS h_v0 fk_4_1 rfl tw_174 d_Le_begin_16 (fun σ57 H locs eσ57 hH hT hS => ?_)
  replace hF := hF σ57 eσ57
  exact rs_vret C hH hT hS hF d_Le_begin_19
/-! RouteSpeaker$Letter.add(I)V -/
theorem d_Le_add_0 : decode prog_4_method_10_code 0 = .ok (.aload_n 0, 1) := by decide +kernel
theorem d_Le_add_1 : decode prog_4_method_10_code 1 = .ok (.getfield 67, 3) := by decide +kernel
theorem d_Le_add_4 : decode prog_4_method_10_code 4 = .ok (.bipush (60), 2) := by decide +kernel
theorem d_Le_add_6 : decode prog_4_method_10_code 6 = .ok (.if_icmp .ge (23), 3) := by decide +kernel
theorem d_Le_add_9 : decode prog_4_method_10_code 9 = .ok (.aload_n 0, 1) := by decide +kernel
theorem d_Le_add_10 : decode prog_4_method_10_code 10 = .ok (.getfield 9, 3) := by decide +kernel
theorem d_Le_add_13 : decode prog_4_method_10_code 13 = .ok (.aload_n 0, 1) := by decide +kernel
theorem d_Le_add_14 : decode prog_4_method_10_code 14 = .ok (.getfield 67, 3) := by decide +kernel
theorem d_Le_add_17 : decode prog_4_method_10_code 17 = .ok (.iload_n 1, 1) := by decide +kernel
theorem d_Le_add_18 : decode prog_4_method_10_code 18 = .ok (.iastore, 1) := by decide +kernel
theorem d_Le_add_19 : decode prog_4_method_10_code 19 = .ok (.aload_n 0, 1) := by decide +kernel
theorem d_Le_add_20 : decode prog_4_method_10_code 20 = .ok (.dup, 1) := by decide +kernel
theorem d_Le_add_21 : decode prog_4_method_10_code 21 = .ok (.getfield 67, 3) := by decide +kernel
theorem d_Le_add_24 : decode prog_4_method_10_code 24 = .ok (.iconst 1, 1) := by decide +kernel
theorem d_Le_add_25 : decode prog_4_method_10_code 25 = .ok (.iadd, 1) := by decide +kernel
theorem d_Le_add_26 : decode prog_4_method_10_code 26 = .ok (.putfield 67, 3) := by decide +kernel
theorem d_Le_add_29 : decode prog_4_method_10_code 29 = .ok (.return_, 1) := by decide +kernel
def F_Le_add (N : Nat → Nat) (v0 : Nat) (x1 : Int32) (σ : rs_Mem) (Q : rs_Mem → Prop) : Prop :=
  (((60 : Int32) ≤ (rs_I σ v0 1) → (Q σ)) ∧ (¬ ((60 : Int32) ≤ (rs_I σ v0 1)) → (vp_in (rs_I σ v0 1) (N (rs_R σ v0 0)) ∧ ∀ σ53 : rs_Mem, σ53 = rs_sI σ (rs_R σ v0 0) (rs_I σ v0 1).toNatClampNeg x1 → (∀ σ54 : rs_Mem, σ54 = rs_sI σ53 v0 1 ((rs_I σ53 v0 1) + (1 : Int32)) → (Q σ54)))))
abbrev y_Le_add : MethodName := ({ cls := "RouteSpeaker$Letter", name := "add", desc := "(I)V" } : Jvm.MethodName)
theorem rc_Le_add : rs_Cal y_Le_add prog_4_method_10_code 2 none 1 := ⟨tw_479, tw_6, by decide, by decide, by decide +kernel⟩
set_option maxRecDepth 20000 in
theorem J_Le_add (l : Launch) {G : rs_G} {Bm : Nat} {S : rs_Shp} {v0 : Nat} {x1 : Int32} {σ : rs_Mem} {Q : rs_Mem → Prop} (h_v0 : rs_Ok S 4 v0) (hF : F_Le_add S.2.2 v0 x1 σ Q) :
    Met l y_Le_add (rs_ws y_Le_add prog_4_method_10_code 2 none) { frames := 0, cells := 0, slots := 0, locals := 0 } (rs_P G Bm S σ [.ref (Bm + v0), .int x1]) (rs_Qv G Bm S Q) 0 0 (rs_A Bm) := by
  refine rs_met (own := "RouteSpeaker$Letter") (by decide) rfl (Nat.le_of_ble_eq_true rfl) (fun p e s m below meth c ls C hl hH hT hS => ?_)
  replace hl : lv_has ls 2 [(0, .ref (Bm + v0)), (1, .int x1)] := hl
  have hx := C.1
  have hb := C.2.1
  unfold F_Le_add at hF
  refine lv_aload_n hx hb d_Le_add_0 rfl (lv_at hl 0 rfl) ?_
  refine rs_getI C hH h_v0 fk_4_1 tw_174 d_Le_add_1 ?_
  refine lv_bipush hx hb d_Le_add_4 kb_60 ?_
  refine lv_icmp_ge hx hb d_Le_add_6 (tgt := 29) rfl (fun hc => ?_) (fun hc => ?_)
  · replace hF := hF.1 hc
    exact rs_vret C hH hT hS hF d_Le_add_29
  · replace hF := hF.2 hc
    refine lv_aload_n hx hb d_Le_add_9 rfl (lv_at hl 0 rfl) ?_
    refine rs_getR C hH hT h_v0 fk_4_0 tw_172 d_Le_add_10 (fun h51 => ?_)
    refine lv_aload_n hx hb d_Le_add_13 rfl (lv_at hl 0 rfl) ?_
    refine rs_getI C hH h_v0 fk_4_1 tw_174 d_Le_add_14 ?_
    refine lv_iload_n hx hb d_Le_add_17 rfl (lv_at hl 1 rfl) ?_
    obtain ⟨g52, hF⟩ := hF
    refine rs_iast C hH hT hS h51 g52 d_Le_add_18 (fun σ53 H locs eσ53 hH hT hS => ?_)
    replace hF := hF σ53 eσ53
    refine lv_aload_n hx hb d_Le_add_19 rfl (lv_at hl 0 rfl) ?_
    refine lv_dup hx hb d_Le_add_20 rfl ?_
    refine rs_getI C hH h_v0 fk_4_1 tw_174 d_Le_add_21 ?_
    refine lv_iconst hx hb d_Le_add_24 ki_1 ?_
    refine lv_iadd hx hb d_Le_add_25 ?_
    refine rs_putI C hH hT hS h_v0 fk_4_1 rfl tw_174 d_Le_add_26 (fun σ54 H locs eσ54 hH hT hS => ?_)
    replace hF := hF σ54 eσ54
    exact rs_vret C hH hT hS hF d_Le_add_29
/-! RouteSpeaker$Letter.addValue(II)V -/
theorem d_Le_addValue_0 : decode prog_4_method_8_code 0 = .ok (.aload_n 0, 1) := by decide +kernel
theorem d_Le_addValue_1 : decode prog_4_method_8_code 1 = .ok (.iload_n 1, 1) := by decide +kernel
theorem d_Le_addValue_2 : decode prog_4_method_8_code 2 = .ok (.invokevirtual 31, 3) := by decide +kernel
theorem d_Le_addValue_5 : decode prog_4_method_8_code 5 = .ok (.aload_n 0, 1) := by decide +kernel
theorem d_Le_addValue_6 : decode prog_4_method_8_code 6 = .ok (.iconst 1, 1) := by decide +kernel
theorem d_Le_addValue_7 : decode prog_4_method_8_code 7 = .ok (.invokevirtual 31, 3) := by decide +kernel
theorem d_Le_addValue_10 : decode prog_4_method_8_code 10 = .ok (.aload_n 0, 1) := by decide +kernel
theorem d_Le_addValue_11 : decode prog_4_method_8_code 11 = .ok (.iload_n 2, 1) := by decide +kernel
theorem d_Le_addValue_12 : decode prog_4_method_8_code 12 = .ok (.invokevirtual 31, 3) := by decide +kernel
theorem d_Le_addValue_15 : decode prog_4_method_8_code 15 = .ok (.return_, 1) := by decide +kernel
def F_Le_addValue (N : Nat → Nat) (v0 : Nat) (x1 : Int32) (x2 : Int32) (σ : rs_Mem) (Q : rs_Mem → Prop) : Prop :=
  (F_Le_add N v0 x1 σ (fun σ51 => (F_Le_add N v0 (1 : Int32) σ51 (fun σ52 => (F_Le_add N v0 x2 σ52 (fun σ53 => (Q σ53)))))))
abbrev y_Le_addValue : MethodName := ({ cls := "RouteSpeaker$Letter", name := "addValue", desc := "(II)V" } : Jvm.MethodName)
theorem rc_Le_addValue : rs_Cal y_Le_addValue prog_4_method_8_code 3 none 2 := ⟨tw_483, tw_6, by decide, by decide, by decide +kernel⟩
set_option maxRecDepth 20000 in
theorem J_Le_addValue (l : Launch) {G : rs_G} {Bm : Nat} {S : rs_Shp} {v0 : Nat} {x1 : Int32} {x2 : Int32} {σ : rs_Mem} {Q : rs_Mem → Prop} (h_v0 : rs_Ok S 4 v0) (hF : F_Le_addValue S.2.2 v0 x1 x2 σ Q) :
    Met l y_Le_addValue (rs_ws y_Le_addValue prog_4_method_8_code 3 none) { frames := 1, cells := 0, slots := 0, locals := 21 } (rs_P G Bm S σ [.ref (Bm + v0), .int x1, .int x2]) (rs_Qv G Bm S Q) 0 0 (rs_A Bm) := by
  refine rs_met (own := "RouteSpeaker$Letter") (by decide) rfl (Nat.le_of_ble_eq_true rfl) (fun p e s m below meth c ls C hl hH hT hS => ?_)
  replace hl : lv_has ls 3 [(0, .ref (Bm + v0)), (1, .int x1), (2, .int x2)] := hl
  have hx := C.1
  have hb := C.2.1
  unfold F_Le_addValue at hF
  refine lv_aload_n hx hb d_Le_addValue_0 rfl (lv_at hl 0 rfl) ?_
  refine lv_iload_n hx hb d_Le_addValue_1 rfl (lv_at hl 1 rfl) ?_
  refine rs_cv (rs_runV C hH hT hl (J_Le_add l h_v0 hF) rc_Le_add tw_476 tw_478 ts_15 h_v0 ⟨rfl, by decide, by decide⟩ rfl ⟨⟨rfl, rfl⟩, by decide, by decide, by decide⟩ (Nat.le_of_ble_eq_true rfl) rfl d_Le_addValue_2) hS (fun σ51 H locs hH hT hS hF => ?_)
  refine lv_aload_n hx hb d_Le_addValue_5 rfl (lv_at hl 0 rfl) ?_
  refine lv_iconst hx hb d_Le_addValue_6 ki_1 ?_
  refine rs_cv (rs_runV C hH hT hl (J_Le_add l h_v0 hF) rc_Le_add tw_476 tw_478 ts_15 h_v0 ⟨rfl, by decide, by decide⟩ rfl ⟨⟨rfl, rfl⟩, by decide, by decide, by decide⟩ (Nat.le_of_ble_eq_true rfl) rfl d_Le_addValue_7) hS (fun σ52 H locs hH hT hS hF => ?_)
  refine lv_aload_n hx hb d_Le_addValue_10 rfl (lv_at hl 0 rfl) ?_
  refine lv_iload_n hx hb d_Le_addValue_11 rfl (lv_at hl 2 rfl) ?_
  refine rs_cv (rs_runV C hH hT hl (J_Le_add l h_v0 hF) rc_Le_add tw_476 tw_478 ts_15 h_v0 ⟨rfl, by decide, by decide⟩ rfl ⟨⟨rfl, rfl⟩, by decide, by decide, by decide⟩ (Nat.le_of_ble_eq_true rfl) rfl d_Le_addValue_12) hS (fun σ53 H locs hH hT hS hF => ?_)
  exact rs_vret C hH hT hS hF d_Le_addValue_15
/-! RouteSpeaker$Letter.addList(III[II)V -/
theorem d_Le_addList_0 : decode prog_4_method_9_code 0 = .ok (.aload_n 0, 1) := by decide +kernel
theorem d_Le_addList_1 : decode prog_4_method_9_code 1 = .ok (.iload_n 1, 1) := by decide +kernel
theorem d_Le_addList_2 : decode prog_4_method_9_code 2 = .ok (.invokevirtual 31, 3) := by decide +kernel
theorem d_Le_addList_5 : decode prog_4_method_9_code 5 = .ok (.aload_n 0, 1) := by decide +kernel
theorem d_Le_addList_6 : decode prog_4_method_9_code 6 = .ok (.iload_n 3, 1) := by decide +kernel
theorem d_Le_addList_7 : decode prog_4_method_9_code 7 = .ok (.iload 5, 2) := by decide +kernel
theorem d_Le_addList_9 : decode prog_4_method_9_code 9 = .ok (.iadd, 1) := by decide +kernel
theorem d_Le_addList_10 : decode prog_4_method_9_code 10 = .ok (.invokevirtual 31, 3) := by decide +kernel
theorem d_Le_addList_13 : decode prog_4_method_9_code 13 = .ok (.iconst 0, 1) := by decide +kernel
theorem d_Le_addList_14 : decode prog_4_method_9_code 14 = .ok (.istore 6, 2) := by decide +kernel
theorem d_Le_addList_16 : decode prog_4_method_9_code 16 = .ok (.iload 6, 2) := by decide +kernel
theorem d_Le_addList_18 : decode prog_4_method_9_code 18 = .ok (.iload_n 3, 1) := by decide +kernel
theorem d_Le_addList_19 : decode prog_4_method_9_code 19 = .ok (.if_icmp .ge (14), 3) := by decide +kernel
theorem d_Le_addList_22 : decode prog_4_method_9_code 22 = .ok (.aload_n 0, 1) := by decide +kernel
theorem d_Le_addList_23 : decode prog_4_method_9_code 23 = .ok (.iload_n 2, 1) := by decide +kernel
theorem d_Le_addList_24 : decode prog_4_method_9_code 24 = .ok (.invokevirtual 31, 3) := by decide +kernel
theorem d_Le_addList_27 : decode prog_4_method_9_code 27 = .ok (.iinc 6 (1), 3) := by decide +kernel
theorem d_Le_addList_30 : decode prog_4_method_9_code 30 = .ok (.goto (-14), 3) := by decide +kernel
theorem d_Le_addList_33 : decode prog_4_method_9_code 33 = .ok (.iconst 0, 1) := by decide +kernel
theorem d_Le_addList_34 : decode prog_4_method_9_code 34 = .ok (.istore 6, 2) := by decide +kernel
theorem d_Le_addList_36 : decode prog_4_method_9_code 36 = .ok (.iload 6, 2) := by decide +kernel
theorem d_Le_addList_38 : decode prog_4_method_9_code 38 = .ok (.iload 5, 2) := by decide +kernel
theorem d_Le_addList_40 : decode prog_4_method_9_code 40 = .ok (.if_icmp .ge (26), 3) := by decide +kernel
theorem d_Le_addList_43 : decode prog_4_method_9_code 43 = .ok (.iload 6, 2) := by decide +kernel
theorem d_Le_addList_45 : decode prog_4_method_9_code 45 = .ok (.aload 4, 2) := by decide +kernel
theorem d_Le_addList_47 : decode prog_4_method_9_code 47 = .ok (.arraylength, 1) := by decide +kernel
theorem d_Le_addList_48 : decode prog_4_method_9_code 48 = .ok (.if_icmp .ge (18), 3) := by decide +kernel
theorem d_Le_addList_51 : decode prog_4_method_9_code 51 = .ok (.aload_n 0, 1) := by decide +kernel
theorem d_Le_addList_52 : decode prog_4_method_9_code 52 = .ok (.aload 4, 2) := by decide +kernel
theorem d_Le_addList_54 : decode prog_4_method_9_code 54 = .ok (.iload 6, 2) := by decide +kernel
theorem d_Le_addList_56 : decode prog_4_method_9_code 56 = .ok (.iaload, 1) := by decide +kernel
theorem d_Le_addList_57 : decode prog_4_method_9_code 57 = .ok (.invokevirtual 31, 3) := by decide +kernel
theorem d_Le_addList_60 : decode prog_4_method_9_code 60 = .ok (.iinc 6 (1), 3) := by decide +kernel
theorem d_Le_addList_63 : decode prog_4_method_9_code 63 = .ok (.goto (-27), 3) := by decide +kernel
theorem d_Le_addList_66 : decode prog_4_method_9_code 66 = .ok (.return_, 1) := by decide +kernel
def G_Le_addList_36 (N : Nat → Nat) (Q : rs_Mem → Prop) (K36 : Nat → Nat → Int32 → Int32 → rs_Mem → Prop) (v0 : Nat) (v4 : Nat) (x5 : Int32) (x6 : Int32) (σ : rs_Mem) : Prop :=
  ((x5 ≤ x6 → (Q σ)) ∧ (¬ (x5 ≤ x6) → (((nI (N v4)) ≤ x6 → (Q σ)) ∧ (¬ ((nI (N v4)) ≤ x6) → (vp_in x6 (N v4) ∧ (F_Le_add N v0 (rs_I σ v4 x6.toNatClampNeg) σ (fun σ52 => (∀ x53 : Int32, x53 = x6 + (1 : Int32) → (K36 v0 v4 x5 x53 σ52)))))))))
noncomputable def L_Le_addList_36 (N : Nat → Nat) (Q : rs_Mem → Prop) (n : Nat) : Nat → Nat → Int32 → Int32 → rs_Mem → Prop := Nat.rec (motive := fun _ => Nat → Nat → Int32 → Int32 → rs_Mem → Prop) (fun _ _ _ _ _ => False) (fun _ K => G_Le_addList_36 N Q K) n
def G_Le_addList_16 (N : Nat → Nat) (Q : rs_Mem → Prop) (K16 : Nat → Int32 → Int32 → Nat → Int32 → Int32 → rs_Mem → Prop) (v0 : Nat) (x2 : Int32) (x3 : Int32) (v4 : Nat) (x5 : Int32) (x6 : Int32) (σ : rs_Mem) : Prop :=
  ((x3 ≤ x6 → (∃ n : Nat, L_Le_addList_36 N Q n v0 v4 x5 (0 : Int32) σ)) ∧ (¬ (x3 ≤ x6) → (F_Le_add N v0 x2 σ (fun σ51 => (∀ x52 : Int32, x52 = x6 + (1 : Int32) → (K16 v0 x2 x3 v4 x5 x52 σ51))))))
noncomputable def L_Le_addList_16 (N : Nat → Nat) (Q : rs_Mem → Prop) (n : Nat) : Nat → Int32 → Int32 → Nat → Int32 → Int32 → rs_Mem → Prop := Nat.rec (motive := fun _ => Nat → Int32 → Int32 → Nat → Int32 → Int32 → rs_Mem → Prop) (fun _ _ _ _ _ _ _ => False) (fun _ K => G_Le_addList_16 N Q K) n
def F_Le_addList (N : Nat → Nat) (v0 : Nat) (x1 : Int32) (x2 : Int32) (x3 : Int32) (v4 : Nat) (x5 : Int32) (σ : rs_Mem) (Q : rs_Mem → Prop) : Prop :=
  (F_Le_add N v0 x1 σ (fun σ51 => (F_Le_add N v0 (x3 + x5) σ51 (fun σ52 => (∃ n : Nat, L_Le_addList_16 N Q n v0 x2 x3 v4 x5 (0 : Int32) σ52)))))
set_option maxRecDepth 20000 in
theorem JL_Le_addList_36 {p : Program} {l : Launch} {e : Env} {s : State} {m : MethodId} {args : Array Value} {below : List Frame} {meth : Method} {c : Code} {G : rs_G} {Bm : Nat} {S : rs_Shp} {Q : rs_Mem → Prop} (C : rs_C "RouteSpeaker$Letter" prog_4_method_9_code 7 none G p s m meth c args) : ∀ n : Nat, ∀ (v0 : Nat) (v4 : Nat) (x5 : Int32) (x6 : Int32) (σ : rs_Mem) (H : Heap) (locs : List Loc) (ls : Array Slot), rs_Ok S 4 v0 → rs_Ok S 20 v4 → rs_H G Bm S σ H → rs_T S σ → va_S (rs_A Bm) s.heap H locs → lv_has ls 7 [(0, .ref (Bm + v0)), (4, .ref (Bm + v4)), (5, .int x5), (6, .int x6)] → (L_Le_addList_36 S.2.2 Q n) v0 v4 x5 x6 σ → W p l e { frames := 1, cells := 0, slots := 0, locals := 21 } s m args below meth c H locs 0 0 (MQ below (rs_Qv G Bm S Q) args s 0 0 (rs_A Bm)) (F0 m 36 ls []) := by
  have hx := C.1
  have hb := C.2.1
  intro n
  induction n with
  | zero => intros; rename_i hF; exact hF.elim
  | succ n hK36 =>
    intro v0 v4 x5 x6 σ H locs ls h_v0 h_v4 hH hT hS hl hF
    replace hF : G_Le_addList_36 S.2.2 Q (L_Le_addList_36 S.2.2 Q n) v0 v4 x5 x6 σ := hF
    unfold G_Le_addList_36 at hF
    refine lv_iload hx hb d_Le_addList_36 (lv_at hl 3 rfl) ?_
    refine lv_iload hx hb d_Le_addList_38 (lv_at hl 2 rfl) ?_
    refine lv_icmp_ge hx hb d_Le_addList_40 (tgt := 66) rfl (fun hc => ?_) (fun hc => ?_)
    · replace hF := hF.1 hc
      exact rs_vret C hH hT hS hF d_Le_addList_66
    · replace hF := hF.2 hc
      refine lv_iload hx hb d_Le_addList_43 (lv_at hl 3 rfl) ?_
      refine lv_aload hx hb d_Le_addList_45 (lv_at hl 1 rfl) ?_
      refine rs_alen C hH h_v4 (by decide) d_Le_addList_47 ?_
      refine lv_icmp_ge hx hb d_Le_addList_48 (tgt := 66) rfl (fun hc => ?_) (fun hc => ?_)
      · replace hF := hF.1 hc
        exact rs_vret C hH hT hS hF d_Le_addList_66
      · replace hF := hF.2 hc
        refine lv_aload_n hx hb d_Le_addList_51 rfl (lv_at hl 0 rfl) ?_
        refine lv_aload hx hb d_Le_addList_52 (lv_at hl 1 rfl) ?_
        refine lv_iload hx hb d_Le_addList_54 (lv_at hl 3 rfl) ?_
        obtain ⟨g51, hF⟩ := hF
        refine rs_iald C hH h_v4 g51 d_Le_addList_56 ?_
        refine rs_cv (rs_runV C hH hT hl (J_Le_add l h_v0 hF) rc_Le_add tw_476 tw_478 ts_15 h_v0 ⟨rfl, by decide, by decide⟩ rfl ⟨⟨rfl, rfl⟩, by decide, by decide, by decide⟩ (Nat.le_of_ble_eq_true rfl) rfl d_Le_addList_57) hS (fun σ52 H locs hH hT hS hF => ?_)
        obtain ⟨x53, ex53⟩ : ∃ z : Int32, z = x6 + (1 : Int32) := ⟨_, rfl⟩
        replace hF := hF x53 ex53
        refine lv_iinc hx hb d_Le_addList_60 hl (k := 3) rfl (v := x53) (by rw [ki_1, ex53]) (by decide) (lv' := [(6, .int x53), (0, .ref (Bm + v0)), (4, .ref (Bm + v4)), (5, .int x5)]) rfl (fun ls hl => ?_)
        refine lv_goto hx hb d_Le_addList_63 (tgt := 36) rfl ?_
        exact hK36 v0 v4 x5 x53 σ52 _ _ _ h_v0 h_v4 hH hT hS (lv_sub hl [1, 2, 3, 0] rfl) hF
set_option maxRecDepth 20000 in
theorem JL_Le_addList_16 {p : Program} {l : Launch} {e : Env} {s : State} {m : MethodId} {args : Array Value} {below : List Frame} {meth : Method} {c : Code} {G : rs_G} {Bm : Nat} {S : rs_Shp} {Q : rs_Mem → Prop} (C : rs_C "RouteSpeaker$Letter" prog_4_method_9_code 7 none G p s m meth c args) : ∀ n : Nat, ∀ (v0 : Nat) (x2 : Int32) (x3 : Int32) (v4 : Nat) (x5 : Int32) (x6 : Int32) (σ : rs_Mem) (H : Heap) (locs : List Loc) (ls : Array Slot), rs_Ok S 4 v0 → rs_Ok S 20 v4 → rs_H G Bm S σ H → rs_T S σ → va_S (rs_A Bm) s.heap H locs → lv_has ls 7 [(0, .ref (Bm + v0)), (2, .int x2), (3, .int x3), (4, .ref (Bm + v4)), (5, .int x5), (6, .int x6)] → (L_Le_addList_16 S.2.2 Q n) v0 x2 x3 v4 x5 x6 σ → W p l e { frames := 1, cells := 0, slots := 0, locals := 21 } s m args below meth c H locs 0 0 (MQ below (rs_Qv G Bm S Q) args s 0 0 (rs_A Bm)) (F0 m 16 ls []) := by
  have hx := C.1
  have hb := C.2.1
  intro n
  induction n with
  | zero => intros; rename_i hF; exact hF.elim
  | succ n hK16 =>
    intro v0 x2 x3 v4 x5 x6 σ H locs ls h_v0 h_v4 hH hT hS hl hF
    replace hF : G_Le_addList_16 S.2.2 Q (L_Le_addList_16 S.2.2 Q n) v0 x2 x3 v4 x5 x6 σ := hF
    unfold G_Le_addList_16 at hF
    refine lv_iload hx hb d_Le_addList_16 (lv_at hl 5 rfl) ?_
    refine lv_iload_n hx hb d_Le_addList_18 rfl (lv_at hl 2 rfl) ?_
    refine lv_icmp_ge hx hb d_Le_addList_19 (tgt := 33) rfl (fun hc => ?_) (fun hc => ?_)
    · replace hF := hF.1 hc
      refine lv_iconst hx hb d_Le_addList_33 ki_0 ?_
      refine lv_istore hx hb d_Le_addList_34 hl (by decide) (lv' := [(6, .int (0 : Int32)), (0, .ref (Bm + v0)), (2, .int x2), (3, .int x3), (4, .ref (Bm + v4)), (5, .int x5)]) rfl (fun ls hl => ?_)
      obtain ⟨n, hF⟩ := hF
      exact JL_Le_addList_36 C n v0 v4 x5 (0 : Int32) σ _ _ _ h_v0 h_v4 hH hT hS (lv_sub hl [1, 4, 5, 0] rfl) hF
    · replace hF := hF.2 hc
      refine lv_aload_n hx hb d_Le_addList_22 rfl (lv_at hl 0 rfl) ?_
      refine lv_iload_n hx hb d_Le_addList_23 rfl (lv_at hl 1 rfl) ?_
      refine rs_cv (rs_runV C hH hT hl (J_Le_add l h_v0 hF) rc_Le_add tw_476 tw_478 ts_15 h_v0 ⟨rfl, by decide, by decide⟩ rfl ⟨⟨rfl, rfl⟩, by decide, by decide, by decide⟩ (Nat.le_of_ble_eq_true rfl) rfl d_Le_addList_24) hS (fun σ51 H locs hH hT hS hF => ?_)
      obtain ⟨x52, ex52⟩ : ∃ z : Int32, z = x6 + (1 : Int32) := ⟨_, rfl⟩
      replace hF := hF x52 ex52
      refine lv_iinc hx hb d_Le_addList_27 hl (k := 5) rfl (v := x52) (by rw [ki_1, ex52]) (by decide) (lv' := [(6, .int x52), (0, .ref (Bm + v0)), (2, .int x2), (3, .int x3), (4, .ref (Bm + v4)), (5, .int x5)]) rfl (fun ls hl => ?_)
      refine lv_goto hx hb d_Le_addList_30 (tgt := 16) rfl ?_
      exact hK16 v0 x2 x3 v4 x5 x52 σ51 _ _ _ h_v0 h_v4 hH hT hS (lv_sub hl [1, 2, 3, 4, 5, 0] rfl) hF
abbrev y_Le_addList : MethodName := ({ cls := "RouteSpeaker$Letter", name := "addList", desc := "(III[II)V" } : Jvm.MethodName)
theorem rc_Le_addList : rs_Cal y_Le_addList prog_4_method_9_code 7 none 5 := ⟨tw_487, tw_6, by decide, by decide, by decide +kernel⟩
set_option maxRecDepth 20000 in
theorem J_Le_addList (l : Launch) {G : rs_G} {Bm : Nat} {S : rs_Shp} {v0 : Nat} {x1 : Int32} {x2 : Int32} {x3 : Int32} {v4 : Nat} {x5 : Int32} {σ : rs_Mem} {Q : rs_Mem → Prop} (h_v0 : rs_Ok S 4 v0) (h_v4 : rs_Ok S 20 v4) (hF : F_Le_addList S.2.2 v0 x1 x2 x3 v4 x5 σ Q) :
    Met l y_Le_addList (rs_ws y_Le_addList prog_4_method_9_code 7 none) { frames := 1, cells := 0, slots := 0, locals := 21 } (rs_P G Bm S σ [.ref (Bm + v0), .int x1, .int x2, .int x3, .ref (Bm + v4), .int x5]) (rs_Qv G Bm S Q) 0 0 (rs_A Bm) := by
  refine rs_met (own := "RouteSpeaker$Letter") (by decide) rfl (Nat.le_of_ble_eq_true rfl) (fun p e s m below meth c ls C hl hH hT hS => ?_)
  replace hl : lv_has ls 7 [(0, .ref (Bm + v0)), (1, .int x1), (2, .int x2), (3, .int x3), (4, .ref (Bm + v4)), (5, .int x5)] := hl
  have hx := C.1
  have hb := C.2.1
  unfold F_Le_addList at hF
  refine lv_aload_n hx hb d_Le_addList_0 rfl (lv_at hl 0 rfl) ?_
  refine lv_iload_n hx hb d_Le_addList_1 rfl (lv_at hl 1 rfl) ?_
  refine rs_cv (rs_runV C hH hT hl (J_Le_add l h_v0 hF) rc_Le_add tw_476 tw_478 ts_15 h_v0 ⟨rfl, by decide, by decide⟩ rfl ⟨⟨rfl, rfl⟩, by decide, by decide, by decide⟩ (Nat.le_of_ble_eq_true rfl) rfl d_Le_addList_2) hS (fun σ51 H locs hH hT hS hF => ?_)
  refine lv_aload_n hx hb d_Le_addList_5 rfl (lv_at hl 0 rfl) ?_
  refine lv_iload_n hx hb d_Le_addList_6 rfl (lv_at hl 3 rfl) ?_
  refine lv_iload hx hb d_Le_addList_7 (lv_at hl 5 rfl) ?_
  refine lv_iadd hx hb d_Le_addList_9 ?_
  refine rs_cv (rs_runV C hH hT hl (J_Le_add l h_v0 hF) rc_Le_add tw_476 tw_478 ts_15 h_v0 ⟨rfl, by decide, by decide⟩ rfl ⟨⟨rfl, rfl⟩, by decide, by decide, by decide⟩ (Nat.le_of_ble_eq_true rfl) rfl d_Le_addList_10) hS (fun σ52 H locs hH hT hS hF => ?_)
  refine lv_iconst hx hb d_Le_addList_13 ki_0 ?_
  refine lv_istore hx hb d_Le_addList_14 hl (by decide) (lv' := [(6, .int (0 : Int32)), (0, .ref (Bm + v0)), (1, .int x1), (2, .int x2), (3, .int x3), (4, .ref (Bm + v4)), (5, .int x5)]) rfl (fun ls hl => ?_)
  obtain ⟨n, hF⟩ := hF
  exact JL_Le_addList_16 C n v0 x2 x3 v4 x5 (0 : Int32) σ52 _ _ _ h_v0 h_v4 hH hT hS (lv_sub hl [1, 3, 4, 5, 6, 0] rfl) hF
/-! RouteSpeaker$Letter.endAnnouncement()V -/
theorem d_Le_endAnnouncement_0 : decode prog_4_method_7_code 0 = .ok (.aload_n 0, 1) := by decide +kernel
theorem d_Le_endAnnouncement_1 : decode prog_4_method_7_code 1 = .ok (.getfield 9, 3) := by decide +kernel
theorem d_Le_endAnnouncement_4 : decode prog_4_method_7_code 4 = .ok (.iconst 3, 1) := by decide +kernel
theorem d_Le_endAnnouncement_5 : decode prog_4_method_7_code 5 = .ok (.aload_n 0, 1) := by decide +kernel
theorem d_Le_endAnnouncement_6 : decode prog_4_method_7_code 6 = .ok (.getfield 67, 3) := by decide +kernel
theorem d_Le_endAnnouncement_9 : decode prog_4_method_7_code 9 = .ok (.iconst 4, 1) := by decide +kernel
theorem d_Le_endAnnouncement_10 : decode prog_4_method_7_code 10 = .ok (.isub, 1) := by decide +kernel
theorem d_Le_endAnnouncement_11 : decode prog_4_method_7_code 11 = .ok (.iastore, 1) := by decide +kernel
theorem d_Le_endAnnouncement_12 : decode prog_4_method_7_code 12 = .ok (.aload_n 0, 1) := by decide +kernel
theorem d_Le_endAnnouncement_13 : decode prog_4_method_7_code 13 = .ok (.aload_n 0, 1) := by decide +kernel
theorem d_Le_endAnnouncement_14 : decode prog_4_method_7_code 14 = .ok (.getfield 15, 3) := by decide +kernel
theorem d_Le_endAnnouncement_17 : decode prog_4_method_7_code 17 = .ok (.invokevirtual 31, 3) := by decide +kernel
theorem d_Le_endAnnouncement_20 : decode prog_4_method_7_code 20 = .ok (.aload_n 0, 1) := by decide +kernel
theorem d_Le_endAnnouncement_21 : decode prog_4_method_7_code 21 = .ok (.aload_n 0, 1) := by decide +kernel
theorem d_Le_endAnnouncement_22 : decode prog_4_method_7_code 22 = .ok (.getfield 19, 3) := by decide +kernel
theorem d_Le_endAnnouncement_25 : decode prog_4_method_7_code 25 = .ok (.invokevirtual 31, 3) := by decide +kernel
theorem d_Le_endAnnouncement_28 : decode prog_4_method_7_code 28 = .ok (.aload_n 0, 1) := by decide +kernel
theorem d_Le_endAnnouncement_29 : decode prog_4_method_7_code 29 = .ok (.getfield 9, 3) := by decide +kernel
theorem d_Le_endAnnouncement_32 : decode prog_4_method_7_code 32 = .ok (.iconst 0, 1) := by decide +kernel
theorem d_Le_endAnnouncement_33 : decode prog_4_method_7_code 33 = .ok (.aload_n 0, 1) := by decide +kernel
theorem d_Le_endAnnouncement_34 : decode prog_4_method_7_code 34 = .ok (.getfield 67, 3) := by decide +kernel
theorem d_Le_endAnnouncement_37 : decode prog_4_method_7_code 37 = .ok (.iastore, 1) := by decide +kernel
theorem d_Le_endAnnouncement_38 : decode prog_4_method_7_code 38 = .ok (.return_, 1) := by decide +kernel
def F_Le_endAnnouncement (N : Nat → Nat) (v0 : Nat) (σ : rs_Mem) (Q : rs_Mem → Prop) : Prop :=
  (vp_in (3 : Int32) (N (rs_R σ v0 0)) ∧ ∀ σ53 : rs_Mem, σ53 = rs_sI σ (rs_R σ v0 0) (3 : Int32).toNatClampNeg ((rs_I σ v0 1) - (4 : Int32)) → (F_Le_add N v0 (rs_I σ53 v0 2) σ53 (fun σ54 => (F_Le_add N v0 (rs_I σ54 v0 3) σ54 (fun σ55 => (vp_in (0 : Int32) (N (rs_R σ55 v0 0)) ∧ ∀ σ58 : rs_Mem, σ58 = rs_sI σ55 (rs_R σ55 v0 0) (0 : Int32).toNatClampNeg (rs_I σ55 v0 1) → (Q σ58)))))))
abbrev y_Le_endAnnouncement : MethodName := ({ cls := "RouteSpeaker$Letter", name := "endAnnouncement", desc := "()V" } : Jvm.MethodName)
theorem rc_Le_endAnnouncement : rs_Cal y_Le_endAnnouncement prog_4_method_7_code 1 none 0 := ⟨tw_491, tw_6, by decide, by decide, by decide +kernel⟩
set_option maxRecDepth 20000 in
theorem J_Le_endAnnouncement (l : Launch) {G : rs_G} {Bm : Nat} {S : rs_Shp} {v0 : Nat} {σ : rs_Mem} {Q : rs_Mem → Prop} (h_v0 : rs_Ok S 4 v0) (hF : F_Le_endAnnouncement S.2.2 v0 σ Q) :
    Met l y_Le_endAnnouncement (rs_ws y_Le_endAnnouncement prog_4_method_7_code 1 none) { frames := 1, cells := 0, slots := 0, locals := 21 } (rs_P G Bm S σ [.ref (Bm + v0)]) (rs_Qv G Bm S Q) 0 0 (rs_A Bm) := by
  refine rs_met (own := "RouteSpeaker$Letter") (by decide) rfl (Nat.le_of_ble_eq_true rfl) (fun p e s m below meth c ls C hl hH hT hS => ?_)
  replace hl : lv_has ls 1 [(0, .ref (Bm + v0))] := hl
  have hx := C.1
  have hb := C.2.1
  unfold F_Le_endAnnouncement at hF
  refine lv_aload_n hx hb d_Le_endAnnouncement_0 rfl (lv_at hl 0 rfl) ?_
  refine rs_getR C hH hT h_v0 fk_4_0 tw_172 d_Le_endAnnouncement_1 (fun h51 => ?_)
  refine lv_iconst hx hb d_Le_endAnnouncement_4 ki_3 ?_
  refine lv_aload_n hx hb d_Le_endAnnouncement_5 rfl (lv_at hl 0 rfl) ?_
  refine rs_getI C hH h_v0 fk_4_1 tw_174 d_Le_endAnnouncement_6 ?_
  refine lv_iconst hx hb d_Le_endAnnouncement_9 ki_4 ?_
  refine lv_isub hx hb d_Le_endAnnouncement_10 ?_
  obtain ⟨g52, hF⟩ := hF
  refine rs_iast C hH hT hS h51 g52 d_Le_endAnnouncement_11 (fun σ53 H locs eσ53 hH hT hS => ?_)
  replace hF := hF σ53 eσ53
  refine lv_aload_n hx hb d_Le_endAnnouncement_12 rfl (lv_at hl 0 rfl) ?_
  refine lv_aload_n hx hb d_Le_endAnnouncement_13 rfl (lv_at hl 0 rfl) ?_
  refine rs_getI C hH h_v0 fk_4_2 tw_176 d_Le_endAnnouncement_14 ?_
  refine rs_cv (rs_runV C hH hT hl (J_Le_add l h_v0 hF) rc_Le_add tw_476 tw_478 ts_15 h_v0 ⟨rfl, by decide, by decide⟩ rfl ⟨⟨rfl, rfl⟩, by decide, by decide, by decide⟩ (Nat.le_of_ble_eq_true rfl) rfl d_Le_endAnnouncement_17) hS (fun σ54 H locs hH hT hS hF => ?_)
  refine lv_aload_n hx hb d_Le_endAnnouncement_20 rfl (lv_at hl 0 rfl) ?_
  refine lv_aload_n hx hb d_Le_endAnnouncement_21 rfl (lv_at hl 0 rfl) ?_
  refine rs_getI C hH h_v0 fk_4_3 tw_177 d_Le_endAnnouncement_22 ?_
  refine rs_cv (rs_runV C hH hT hl (J_Le_add l h_v0 hF) rc_Le_add tw_476 tw_478 ts_15 h_v0 ⟨rfl, by decide, by decide⟩ rfl ⟨⟨rfl, rfl⟩, by decide, by decide, by decide⟩ (Nat.le_of_ble_eq_true rfl) rfl d_Le_endAnnouncement_25) hS (fun σ55 H locs hH hT hS hF => ?_)
  refine lv_aload_n hx hb d_Le_endAnnouncement_28 rfl (lv_at hl 0 rfl) ?_
  refine rs_getR C hH hT h_v0 fk_4_0 tw_172 d_Le_endAnnouncement_29 (fun h56 => ?_)
  refine lv_iconst hx hb d_Le_endAnnouncement_32 ki_0 ?_
  refine lv_aload_n hx hb d_Le_endAnnouncement_33 rfl (lv_at hl 0 rfl) ?_
  refine rs_getI C hH h_v0 fk_4_1 tw_174 d_Le_endAnnouncement_34 ?_
  obtain ⟨g57, hF⟩ := hF
  refine rs_iast C hH hT hS h56 g57 d_Le_endAnnouncement_37 (fun σ58 H locs eσ58 hH hT hS => ?_)
  replace hF := hF σ58 eσ58
  exact rs_vret C hH hT hS hF d_Le_endAnnouncement_38
/-! RouteSpeaker$Letter.writeOutward(LRouteSpeaker$Route;I)Z -/
theorem d_Le_writeOutward_0 : decode prog_4_method_3_code 0 = .ok (.iconst 1, 1) := by decide +kernel
theorem d_Le_writeOutward_1 : decode prog_4_method_3_code 1 = .ok (.iload_n 2, 1) := by decide +kernel
theorem d_Le_writeOutward_2 : decode prog_4_method_3_code 2 = .ok (.iadd, 1) := by decide +kernel
theorem d_Le_writeOutward_3 : decode prog_4_method_3_code 3 = .ok (.istore_n 3, 1) := by decide +kernel
theorem d_Le_writeOutward_4 : decode prog_4_method_3_code 4 = .ok (.aload_n 1, 1) := by decide +kernel
theorem d_Le_writeOutward_5 : decode prog_4_method_3_code 5 = .ok (.getfield 22, 3) := by decide +kernel
theorem d_Le_writeOutward_8 : decode prog_4_method_3_code 8 = .ok (.iload_n 3, 1) := by decide +kernel
theorem d_Le_writeOutward_9 : decode prog_4_method_3_code 9 = .ok (.iadd, 1) := by decide +kernel
theorem d_Le_writeOutward_10 : decode prog_4_method_3_code 10 = .ok (.bipush (8), 2) := by decide +kernel
theorem d_Le_writeOutward_12 : decode prog_4_method_3_code 12 = .ok (.if_icmp .le (5), 3) := by decide +kernel
theorem d_Le_writeOutward_15 : decode prog_4_method_3_code 15 = .ok (.iconst 0, 1) := by decide +kernel
theorem d_Le_writeOutward_16 : decode prog_4_method_3_code 16 = .ok (.ireturn, 1) := by decide +kernel
theorem d_Le_writeOutward_17 : decode prog_4_method_3_code 17 = .ok (.aload_n 0, 1) := by decide +kernel
theorem d_Le_writeOutward_18 : decode prog_4_method_3_code 18 = .ok (.iconst 0, 1) := by decide +kernel
theorem d_Le_writeOutward_19 : decode prog_4_method_3_code 19 = .ok (.invokevirtual 27, 3) := by decide +kernel
theorem d_Le_writeOutward_22 : decode prog_4_method_3_code 22 = .ok (.aload_n 0, 1) := by decide +kernel
theorem d_Le_writeOutward_23 : decode prog_4_method_3_code 23 = .ok (.iconst 0, 1) := by decide +kernel
theorem d_Le_writeOutward_24 : decode prog_4_method_3_code 24 = .ok (.invokevirtual 31, 3) := by decide +kernel
theorem d_Le_writeOutward_27 : decode prog_4_method_3_code 27 = .ok (.aload_n 0, 1) := by decide +kernel
theorem d_Le_writeOutward_28 : decode prog_4_method_3_code 28 = .ok (.iconst 1, 1) := by decide +kernel
theorem d_Le_writeOutward_29 : decode prog_4_method_3_code 29 = .ok (.aload_n 1, 1) := by decide +kernel
theorem d_Le_writeOutward_30 : decode prog_4_method_3_code 30 = .ok (.getfield 34, 3) := by decide +kernel
theorem d_Le_writeOutward_33 : decode prog_4_method_3_code 33 = .ok (.invokevirtual 37, 3) := by decide +kernel
theorem d_Le_writeOutward_36 : decode prog_4_method_3_code 36 = .ok (.aload_n 0, 1) := by decide +kernel
theorem d_Le_writeOutward_37 : decode prog_4_method_3_code 37 = .ok (.iconst 2, 1) := by decide +kernel
theorem d_Le_writeOutward_38 : decode prog_4_method_3_code 38 = .ok (.bipush (100), 2) := by decide +kernel
theorem d_Le_writeOutward_40 : decode prog_4_method_3_code 40 = .ok (.iload_n 3, 1) := by decide +kernel
theorem d_Le_writeOutward_41 : decode prog_4_method_3_code 41 = .ok (.aload_n 1, 1) := by decide +kernel
theorem d_Le_writeOutward_42 : decode prog_4_method_3_code 42 = .ok (.getfield 41, 3) := by decide +kernel
theorem d_Le_writeOutward_45 : decode prog_4_method_3_code 45 = .ok (.aload_n 1, 1) := by decide +kernel
theorem d_Le_writeOutward_46 : decode prog_4_method_3_code 46 = .ok (.getfield 22, 3) := by decide +kernel
theorem d_Le_writeOutward_49 : decode prog_4_method_3_code 49 = .ok (.invokevirtual 44, 3) := by decide +kernel
theorem d_Le_writeOutward_52 : decode prog_4_method_3_code 52 = .ok (.aload_n 0, 1) := by decide +kernel
theorem d_Le_writeOutward_53 : decode prog_4_method_3_code 53 = .ok (.iconst 3, 1) := by decide +kernel
theorem d_Le_writeOutward_54 : decode prog_4_method_3_code 54 = .ok (.bipush (7), 2) := by decide +kernel
theorem d_Le_writeOutward_56 : decode prog_4_method_3_code 56 = .ok (.invokevirtual 37, 3) := by decide +kernel
theorem d_Le_writeOutward_59 : decode prog_4_method_3_code 59 = .ok (.aload_n 0, 1) := by decide +kernel
theorem d_Le_writeOutward_60 : decode prog_4_method_3_code 60 = .ok (.invokevirtual 48, 3) := by decide +kernel
theorem d_Le_writeOutward_63 : decode prog_4_method_3_code 63 = .ok (.iconst 1, 1) := by decide +kernel
theorem d_Le_writeOutward_64 : decode prog_4_method_3_code 64 = .ok (.ireturn, 1) := by decide +kernel
def F_Le_writeOutward (N : Nat → Nat) (v0 : Nat) (v1 : Nat) (x2 : Int32) (σ : rs_Mem) (Q : Int32 → rs_Mem → Prop) : Prop :=
  (∀ x51 : Int32, x51 = ((1 : Int32) + x2) → ((((rs_I σ v1 1) + x51) ≤ (8 : Int32) → (F_Le_begin N v0 (0 : Int32) σ (fun σ52 => (F_Le_add N v0 (0 : Int32) σ52 (fun σ53 => (F_Le_addValue N v0 (1 : Int32) (rs_I σ53 v1 0) σ53 (fun σ54 => (F_Le_addList N v0 (2 : Int32) (100 : Int32) x51 (rs_R σ54 v1 2) (rs_I σ54 v1 1) σ54 (fun σ56 => (F_Le_addValue N v0 (3 : Int32) (7 : Int32) σ56 (fun σ57 => (F_Le_endAnnouncement N v0 σ57 (fun σ58 => (Q (1 : Int32) σ58)))))))))))))) ∧ (¬ (((rs_I σ v1 1) + x51) ≤ (8 : Int32)) → (Q (0 : Int32) σ))))
abbrev y_Le_writeOutward : MethodName := ({ cls := "RouteSpeaker$Letter", name := "writeOutward", desc := "(LRouteSpeaker$Route;I)Z" } : Jvm.MethodName)
theorem rc_Le_writeOutward : rs_Cal y_Le_writeOutward prog_4_method_3_code 4 (some .boolean) 2 := ⟨tw_471, tw_6, by decide, by decide, by decide +kernel⟩
set_option maxRecDepth 20000 in
theorem J_Le_writeOutward (l : Launch) {G : rs_G} {Bm : Nat} {S : rs_Shp} {v0 : Nat} {v1 : Nat} {x2 : Int32} {σ : rs_Mem} {Q : Int32 → rs_Mem → Prop} (h_v0 : rs_Ok S 4 v0) (h_v1 : rs_Ok S 8 v1) (hF : F_Le_writeOutward S.2.2 v0 v1 x2 σ Q) :
    Met l y_Le_writeOutward (rs_ws y_Le_writeOutward prog_4_method_3_code 4 (some .boolean)) { frames := 2, cells := 0, slots := 0, locals := 47 } (rs_P G Bm S σ [.ref (Bm + v0), .ref (Bm + v1), .int x2]) (rs_Qi G Bm S Q) 0 0 (rs_A Bm) := by
  refine rs_met (own := "RouteSpeaker$Letter") (by decide) rfl (Nat.le_of_ble_eq_true rfl) (fun p e s m below meth c ls C hl hH hT hS => ?_)
  replace hl : lv_has ls 4 [(0, .ref (Bm + v0)), (1, .ref (Bm + v1)), (2, .int x2)] := hl
  have hx := C.1
  have hb := C.2.1
  unfold F_Le_writeOutward at hF
  refine lv_iconst hx hb d_Le_writeOutward_0 ki_1 ?_
  refine lv_iload_n hx hb d_Le_writeOutward_1 rfl (lv_at hl 2 rfl) ?_
  refine lv_iadd hx hb d_Le_writeOutward_2 ?_
  refine lv_topi (fun x51 ex51 => ?_)
  replace hF := hF x51 ex51
  refine lv_istore_n hx hb d_Le_writeOutward_3 rfl hl (by decide) (lv' := [(3, .int x51), (0, .ref (Bm + v0)), (1, .ref (Bm + v1)), (2, .int x2)]) rfl (fun ls hl => ?_)
  refine lv_aload_n hx hb d_Le_writeOutward_4 rfl (lv_at hl 2 rfl) ?_
  refine rs_getI C hH h_v1 fk_8_1 tw_67 d_Le_writeOutward_5 ?_
  refine lv_iload_n hx hb d_Le_writeOutward_8 rfl (lv_at hl 0 rfl) ?_
  refine lv_iadd hx hb d_Le_writeOutward_9 ?_
  refine lv_bipush hx hb d_Le_writeOutward_10 kb_8 ?_
  refine lv_icmp_le hx hb d_Le_writeOutward_12 (tgt := 17) rfl (fun hc => ?_) (fun hc => ?_)
  · replace hF := hF.1 hc
    refine lv_aload_n hx hb d_Le_writeOutward_17 rfl (lv_at hl 1 rfl) ?_
    refine lv_iconst hx hb d_Le_writeOutward_18 ki_0 ?_
    refine rs_cv (rs_runV C hH hT hl (J_Le_begin l h_v0 hF) rc_Le_begin tw_472 tw_474 ts_14 h_v0 ⟨rfl, by decide, by decide⟩ rfl ⟨⟨rfl, rfl⟩, by decide, by decide, by decide⟩ (Nat.le_of_ble_eq_true rfl) rfl d_Le_writeOutward_19) hS (fun σ52 H locs hH hT hS hF => ?_)
    refine lv_aload_n hx hb d_Le_writeOutward_22 rfl (lv_at hl 1 rfl) ?_
    refine lv_iconst hx hb d_Le_writeOutward_23 ki_0 ?_
    refine rs_cv (rs_runV C hH hT hl (J_Le_add l h_v0 hF) rc_Le_add tw_476 tw_478 ts_15 h_v0 ⟨rfl, by decide, by decide⟩ rfl ⟨⟨rfl, rfl⟩, by decide, by decide, by decide⟩ (Nat.le_of_ble_eq_true rfl) rfl d_Le_writeOutward_24) hS (fun σ53 H locs hH hT hS hF => ?_)
    refine lv_aload_n hx hb d_Le_writeOutward_27 rfl (lv_at hl 1 rfl) ?_
    refine lv_iconst hx hb d_Le_writeOutward_28 ki_1 ?_
    refine lv_aload_n hx hb d_Le_writeOutward_29 rfl (lv_at hl 2 rfl) ?_
    refine rs_getI C hH h_v1 fk_8_0 tw_63 d_Le_writeOutward_30 ?_
    refine rs_cv (rs_runV C hH hT hl (J_Le_addValue l h_v0 hF) rc_Le_addValue tw_480 tw_482 ts_16 h_v0 ⟨rfl, by decide, by decide⟩ rfl ⟨⟨rfl, rfl⟩, by decide, by decide, by decide⟩ (Nat.le_of_ble_eq_true rfl) rfl d_Le_writeOutward_33) hS (fun σ54 H locs hH hT hS hF => ?_)
    refine lv_aload_n hx hb d_Le_writeOutward_36 rfl (lv_at hl 1 rfl) ?_
    refine lv_iconst hx hb d_Le_writeOutward_37 ki_2 ?_
    refine lv_bipush hx hb d_Le_writeOutward_38 kb_100 ?_
    refine lv_iload_n hx hb d_Le_writeOutward_40 rfl (lv_at hl 0 rfl) ?_
    refine lv_aload_n hx hb d_Le_writeOutward_41 rfl (lv_at hl 2 rfl) ?_
    refine rs_getR C hH hT h_v1 fk_8_2 tw_71 d_Le_writeOutward_42 (fun h55 => ?_)
    refine lv_aload_n hx hb d_Le_writeOutward_45 rfl (lv_at hl 2 rfl) ?_
    refine rs_getI C hH h_v1 fk_8_1 tw_67 d_Le_writeOutward_46 ?_
    refine rs_cv (rs_runV C hH hT hl (J_Le_addList l h_v0 h55 hF) rc_Le_addList tw_484 tw_486 ts_17 h_v0 ⟨rfl, by decide, by decide⟩ rfl ⟨⟨rfl, rfl⟩, by decide, by decide, by decide⟩ (Nat.le_of_ble_eq_true rfl) rfl d_Le_writeOutward_49) hS (fun σ56 H locs hH hT hS hF => ?_)
    refine lv_aload_n hx hb d_Le_writeOutward_52 rfl (lv_at hl 1 rfl) ?_
    refine lv_iconst hx hb d_Le_writeOutward_53 ki_3 ?_
    refine lv_bipush hx hb d_Le_writeOutward_54 kb_7 ?_
    refine rs_cv (rs_runV C hH hT hl (J_Le_addValue l h_v0 hF) rc_Le_addValue tw_480 tw_482 ts_16 h_v0 ⟨rfl, by decide, by decide⟩ rfl ⟨⟨rfl, rfl⟩, by decide, by decide, by decide⟩ (Nat.le_of_ble_eq_true rfl) rfl d_Le_writeOutward_56) hS (fun σ57 H locs hH hT hS hF => ?_)
    refine lv_aload_n hx hb d_Le_writeOutward_59 rfl (lv_at hl 1 rfl) ?_
    refine rs_cv (rs_runV C hH hT hl (J_Le_endAnnouncement l h_v0 hF) rc_Le_endAnnouncement tw_488 tw_490 ts_18 h_v0 ⟨rfl, by decide, by decide⟩ rfl ⟨⟨rfl, rfl⟩, by decide, by decide, by decide⟩ (Nat.le_of_ble_eq_true rfl) rfl d_Le_writeOutward_60) hS (fun σ58 H locs hH hT hS hF => ?_)
    refine lv_iconst hx hb d_Le_writeOutward_63 ki_1 ?_
    exact rs_zret C hH hT hS (by decide) hF d_Le_writeOutward_64
  · replace hF := hF.2 hc
    refine lv_iconst hx hb d_Le_writeOutward_15 ki_0 ?_
    exact rs_zret C hH hT hS (by decide) hF d_Le_writeOutward_16
/-! RouteSpeaker$Letter.writeInward(LRouteSpeaker$Route;II)Z -/
theorem d_Le_writeInward_0 : decode prog_4_method_4_code 0 = .ok (.iload_n 3, 1) := by decide +kernel
theorem d_Le_writeInward_1 : decode prog_4_method_4_code 1 = .ok (.iconst (-1), 1) := by decide +kernel
theorem d_Le_writeInward_2 : decode prog_4_method_4_code 2 = .ok (.if_icmp .eq (7), 3) := by decide +kernel
theorem d_Le_writeInward_5 : decode prog_4_method_4_code 5 = .ok (.iconst 1, 1) := by decide +kernel
theorem d_Le_writeInward_6 : decode prog_4_method_4_code 6 = .ok (.goto (4), 3) := by decide +kernel
theorem d_Le_writeInward_9 : decode prog_4_method_4_code 9 = .ok (.iconst 0, 1) := by decide +kernel
theorem d_Le_writeInward_10 : decode prog_4_method_4_code 10 = .ok (.istore 4, 2) := by decide +kernel
theorem d_Le_writeInward_12 : decode prog_4_method_4_code 12 = .ok (.iload 4, 2) := by decide +kernel
theorem d_Le_writeInward_14 : decode prog_4_method_4_code 14 = .ok (.ifCond .eq (16), 3) := by decide +kernel
theorem d_Le_writeInward_17 : decode prog_4_method_4_code 17 = .ok (.aload_n 1, 1) := by decide +kernel
theorem d_Le_writeInward_18 : decode prog_4_method_4_code 18 = .ok (.getfield 51, 3) := by decide +kernel
theorem d_Le_writeInward_21 : decode prog_4_method_4_code 21 = .ok (.iconst 1, 1) := by decide +kernel
theorem d_Le_writeInward_22 : decode prog_4_method_4_code 22 = .ok (.iadd, 1) := by decide +kernel
theorem d_Le_writeInward_23 : decode prog_4_method_4_code 23 = .ok (.bipush (6), 2) := by decide +kernel
theorem d_Le_writeInward_25 : decode prog_4_method_4_code 25 = .ok (.if_icmp .le (5), 3) := by decide +kernel
theorem d_Le_writeInward_28 : decode prog_4_method_4_code 28 = .ok (.iconst 0, 1) := by decide +kernel
theorem d_Le_writeInward_29 : decode prog_4_method_4_code 29 = .ok (.ireturn, 1) := by decide +kernel
theorem d_Le_writeInward_30 : decode prog_4_method_4_code 30 = .ok (.aload_n 0, 1) := by decide +kernel
theorem d_Le_writeInward_31 : decode prog_4_method_4_code 31 = .ok (.iconst 0, 1) := by decide +kernel
theorem d_Le_writeInward_32 : decode prog_4_method_4_code 32 = .ok (.invokevirtual 27, 3) := by decide +kernel
theorem d_Le_writeInward_35 : decode prog_4_method_4_code 35 = .ok (.aload_n 0, 1) := by decide +kernel
theorem d_Le_writeInward_36 : decode prog_4_method_4_code 36 = .ok (.iconst 0, 1) := by decide +kernel
theorem d_Le_writeInward_37 : decode prog_4_method_4_code 37 = .ok (.invokevirtual 31, 3) := by decide +kernel
theorem d_Le_writeInward_40 : decode prog_4_method_4_code 40 = .ok (.aload_n 0, 1) := by decide +kernel
theorem d_Le_writeInward_41 : decode prog_4_method_4_code 41 = .ok (.iconst 1, 1) := by decide +kernel
theorem d_Le_writeInward_42 : decode prog_4_method_4_code 42 = .ok (.aload_n 1, 1) := by decide +kernel
theorem d_Le_writeInward_43 : decode prog_4_method_4_code 43 = .ok (.getfield 34, 3) := by decide +kernel
theorem d_Le_writeInward_46 : decode prog_4_method_4_code 46 = .ok (.invokevirtual 37, 3) := by decide +kernel
theorem d_Le_writeInward_49 : decode prog_4_method_4_code 49 = .ok (.aload_n 0, 1) := by decide +kernel
theorem d_Le_writeInward_50 : decode prog_4_method_4_code 50 = .ok (.iconst 2, 1) := by decide +kernel
theorem d_Le_writeInward_51 : decode prog_4_method_4_code 51 = .ok (.iconst 0, 1) := by decide +kernel
theorem d_Le_writeInward_52 : decode prog_4_method_4_code 52 = .ok (.iconst 0, 1) := by decide +kernel
theorem d_Le_writeInward_53 : decode prog_4_method_4_code 53 = .ok (.aload_n 1, 1) := by decide +kernel
theorem d_Le_writeInward_54 : decode prog_4_method_4_code 54 = .ok (.getfield 41, 3) := by decide +kernel
theorem d_Le_writeInward_57 : decode prog_4_method_4_code 57 = .ok (.aload_n 1, 1) := by decide +kernel
theorem d_Le_writeInward_58 : decode prog_4_method_4_code 58 = .ok (.getfield 22, 3) := by decide +kernel
theorem d_Le_writeInward_61 : decode prog_4_method_4_code 61 = .ok (.invokevirtual 44, 3) := by decide +kernel
theorem d_Le_writeInward_64 : decode prog_4_method_4_code 64 = .ok (.aload_n 0, 1) := by decide +kernel
theorem d_Le_writeInward_65 : decode prog_4_method_4_code 65 = .ok (.iconst 3, 1) := by decide +kernel
theorem d_Le_writeInward_66 : decode prog_4_method_4_code 66 = .ok (.aload_n 1, 1) := by decide +kernel
theorem d_Le_writeInward_67 : decode prog_4_method_4_code 67 = .ok (.getfield 54, 3) := by decide +kernel
theorem d_Le_writeInward_70 : decode prog_4_method_4_code 70 = .ok (.invokevirtual 37, 3) := by decide +kernel
theorem d_Le_writeInward_73 : decode prog_4_method_4_code 73 = .ok (.aload_n 1, 1) := by decide +kernel
theorem d_Le_writeInward_74 : decode prog_4_method_4_code 74 = .ok (.getfield 57, 3) := by decide +kernel
theorem d_Le_writeInward_77 : decode prog_4_method_4_code 77 = .ok (.iconst (-1), 1) := by decide +kernel
theorem d_Le_writeInward_78 : decode prog_4_method_4_code 78 = .ok (.if_icmp .eq (12), 3) := by decide +kernel
theorem d_Le_writeInward_81 : decode prog_4_method_4_code 81 = .ok (.aload_n 0, 1) := by decide +kernel
theorem d_Le_writeInward_82 : decode prog_4_method_4_code 82 = .ok (.iconst 4, 1) := by decide +kernel
theorem d_Le_writeInward_83 : decode prog_4_method_4_code 83 = .ok (.aload_n 1, 1) := by decide +kernel
theorem d_Le_writeInward_84 : decode prog_4_method_4_code 84 = .ok (.getfield 57, 3) := by decide +kernel
theorem d_Le_writeInward_87 : decode prog_4_method_4_code 87 = .ok (.invokevirtual 37, 3) := by decide +kernel
theorem d_Le_writeInward_90 : decode prog_4_method_4_code 90 = .ok (.aload_n 0, 1) := by decide +kernel
theorem d_Le_writeInward_91 : decode prog_4_method_4_code 91 = .ok (.iconst 5, 1) := by decide +kernel
theorem d_Le_writeInward_92 : decode prog_4_method_4_code 92 = .ok (.iload_n 2, 1) := by decide +kernel
theorem d_Le_writeInward_93 : decode prog_4_method_4_code 93 = .ok (.invokevirtual 37, 3) := by decide +kernel
theorem d_Le_writeInward_96 : decode prog_4_method_4_code 96 = .ok (.iload 4, 2) := by decide +kernel
theorem d_Le_writeInward_98 : decode prog_4_method_4_code 98 = .ok (.ifCond .eq (31), 3) := by decide +kernel
theorem d_Le_writeInward_101 : decode prog_4_method_4_code 101 = .ok (.aload_n 0, 1) := by decide +kernel
theorem d_Le_writeInward_102 : decode prog_4_method_4_code 102 = .ok (.bipush (9), 2) := by decide +kernel
theorem d_Le_writeInward_104 : decode prog_4_method_4_code 104 = .ok (.aload_n 1, 1) := by decide +kernel
theorem d_Le_writeInward_105 : decode prog_4_method_4_code 105 = .ok (.iload_n 3, 1) := by decide +kernel
theorem d_Le_writeInward_106 : decode prog_4_method_4_code 106 = .ok (.invokevirtual 60, 3) := by decide +kernel
theorem d_Le_writeInward_109 : decode prog_4_method_4_code 109 = .ok (.invokevirtual 37, 3) := by decide +kernel
theorem d_Le_writeInward_112 : decode prog_4_method_4_code 112 = .ok (.aload_n 0, 1) := by decide +kernel
theorem d_Le_writeInward_113 : decode prog_4_method_4_code 113 = .ok (.bipush (10), 2) := by decide +kernel
theorem d_Le_writeInward_115 : decode prog_4_method_4_code 115 = .ok (.bipush (7), 2) := by decide +kernel
theorem d_Le_writeInward_117 : decode prog_4_method_4_code 117 = .ok (.iconst 1, 1) := by decide +kernel
theorem d_Le_writeInward_118 : decode prog_4_method_4_code 118 = .ok (.aload_n 1, 1) := by decide +kernel
theorem d_Le_writeInward_119 : decode prog_4_method_4_code 119 = .ok (.getfield 64, 3) := by decide +kernel
theorem d_Le_writeInward_122 : decode prog_4_method_4_code 122 = .ok (.aload_n 1, 1) := by decide +kernel
theorem d_Le_writeInward_123 : decode prog_4_method_4_code 123 = .ok (.getfield 51, 3) := by decide +kernel
theorem d_Le_writeInward_126 : decode prog_4_method_4_code 126 = .ok (.invokevirtual 44, 3) := by decide +kernel
theorem d_Le_writeInward_129 : decode prog_4_method_4_code 129 = .ok (.aload_n 0, 1) := by decide +kernel
theorem d_Le_writeInward_130 : decode prog_4_method_4_code 130 = .ok (.invokevirtual 48, 3) := by decide +kernel
theorem d_Le_writeInward_133 : decode prog_4_method_4_code 133 = .ok (.iconst 1, 1) := by decide +kernel
theorem d_Le_writeInward_134 : decode prog_4_method_4_code 134 = .ok (.ireturn, 1) := by decide +kernel
def B_Le_writeInward_129 (N : Nat → Nat) (Q : Int32 → rs_Mem → Prop) (v0 : Nat) (σ : rs_Mem) : Prop :=
  (F_Le_endAnnouncement N v0 σ (fun σ51 => (Q (1 : Int32) σ51)))
def B_Le_writeInward_90 (N : Nat → Nat) (Q : Int32 → rs_Mem → Prop) (v0 : Nat) (v1 : Nat) (x2 : Int32) (x3 : Int32) (x4 : Int32) (σ : rs_Mem) : Prop :=
  (F_Le_addValue N v0 (5 : Int32) x2 σ (fun σ51 => ((x4 = 0 → (B_Le_writeInward_129 N Q v0 σ51)) ∧ (¬ (x4 = 0) → (F_Ro_sourceOr N v1 x3 σ51 (fun x53 σ52 => (F_Le_addValue N v0 (9 : Int32) x53 σ52 (fun σ54 => (F_Le_addList N v0 (10 : Int32) (7 : Int32) (1 : Int32) (rs_R σ54 v1 8) (rs_I σ54 v1 7) σ54 (fun σ56 => (B_Le_writeInward_129 N Q v0 σ56)))))))))))
def B_Le_writeInward_30 (N : Nat → Nat) (Q : Int32 → rs_Mem → Prop) (v0 : Nat) (v1 : Nat) (x2 : Int32) (x3 : Int32) (x4 : Int32) (σ : rs_Mem) : Prop :=
  (F_Le_begin N v0 (0 : Int32) σ (fun σ51 => (F_Le_add N v0 (0 : Int32) σ51 (fun σ52 => (F_Le_addValue N v0 (1 : Int32) (rs_I σ52 v1 0) σ52 (fun σ53 => (F_Le_addList N v0 (2 : Int32) (0 : Int32) (0 : Int32) (rs_R σ53 v1 2) (rs_I σ53 v1 1) σ53 (fun σ55 => (F_Le_addValue N v0 (3 : Int32) (rs_I σ55 v1 3) σ55 (fun σ56 => (((rs_I σ56 v1 4) = (-1 : Int32) → (B_Le_writeInward_90 N Q v0 v1 x2 x3 x4 σ56)) ∧ (¬ ((rs_I σ56 v1 4) = (-1 : Int32)) → (F_Le_addValue N v0 (4 : Int32) (rs_I σ56 v1 4) σ56 (fun σ57 => (B_Le_writeInward_90 N Q v0 v1 x2 x3 x4 σ57)))))))))))))))
def B_Le_writeInward_10 (N : Nat → Nat) (Q : Int32 → rs_Mem → Prop) (v0 : Nat) (v1 : Nat) (x2 : Int32) (x3 : Int32) (y0 : Int32) (σ : rs_Mem) : Prop :=
  ((y0 = 0 → (B_Le_writeInward_30 N Q v0 v1 x2 x3 y0 σ)) ∧ (¬ (y0 = 0) → ((((rs_I σ v1 7) + (1 : Int32)) ≤ (6 : Int32) → (B_Le_writeInward_30 N Q v0 v1 x2 x3 y0 σ)) ∧ (¬ (((rs_I σ v1 7) + (1 : Int32)) ≤ (6 : Int32)) → (Q (0 : Int32) σ)))))
def F_Le_writeInward (N : Nat → Nat) (v0 : Nat) (v1 : Nat) (x2 : Int32) (x3 : Int32) (σ : rs_Mem) (Q : Int32 → rs_Mem → Prop) : Prop :=
  ((x3 = (-1 : Int32) → (B_Le_writeInward_10 N Q v0 v1 x2 x3 (0 : Int32) σ)) ∧ (¬ (x3 = (-1 : Int32)) → (B_Le_writeInward_10 N Q v0 v1 x2 x3 (1 : Int32) σ)))
set_option maxRecDepth 20000 in
theorem JB_Le_writeInward_129 {p : Program} {l : Launch} {e : Env} {s : State} {m : MethodId} {args : Array Value} {below : List Frame} {meth : Method} {c : Code} {G : rs_G} {Bm : Nat} {S : rs_Shp} {Q : Int32 → rs_Mem → Prop} (C : rs_C "RouteSpeaker$Letter" prog_4_method_4_code 5 (some .boolean) G p s m meth c args) (v0 : Nat) (σ : rs_Mem) (H : Heap) (locs : List Loc) (ls : Array Slot) (h_v0 : rs_Ok S 4 v0) (hH : rs_H G Bm S σ H) (hT : rs_T S σ) (hS : va_S (rs_A Bm) s.heap H locs) (hl : lv_has ls 5 [(0, .ref (Bm + v0))]) (hF : B_Le_writeInward_129 S.2.2 Q v0 σ) :
    W p l e { frames := 2, cells := 0, slots := 0, locals := 47 } s m args below meth c H locs 0 0 (MQ below (rs_Qi G Bm S Q) args s 0 0 (rs_A Bm)) (F0 m 129 ls []) := by
  have hx := C.1
  have hb := C.2.1
  unfold B_Le_writeInward_129 at hF
  refine lv_aload_n hx hb d_Le_writeInward_129 rfl (lv_at hl 0 rfl) ?_
  refine rs_cv (rs_runV C hH hT hl (J_Le_endAnnouncement l h_v0 hF) rc_Le_endAnnouncement tw_488 tw_490 ts_18 h_v0 ⟨rfl, by decide, by decide⟩ rfl ⟨⟨rfl, rfl⟩, by decide, by decide, by decide⟩ (Nat.le_of_ble_eq_true rfl) rfl d_Le_writeInward_130) hS (fun σ51 H locs hH hT hS hF => ?_)
  refine lv_iconst hx hb d_Le_writeInward_133 ki_1 ?_
  exact rs_zret C hH hT hS (by decide) hF d_Le_writeInward_134
set_option maxRecDepth 20000 in
theorem JB_Le_writeInward_90 {p : Program} {l : Launch} {e : Env} {s : State} {m : MethodId} {args : Array Value} {below : List Frame} {meth : Method} {c : Code} {G : rs_G} {Bm : Nat} {S : rs_Shp} {Q : Int32 → rs_Mem → Prop} (C : rs_C "RouteSpeaker$Letter" prog_4_method_4_code 5 (some .boolean) G p s m meth c args) (v0 : Nat) (v1 : Nat) (x2 : Int32) (x3 : Int32) (x4 : Int32) (σ : rs_Mem) (H : Heap) (locs : List Loc) (ls : Array Slot) (h_v0 : rs_Ok S 4 v0) (h_v1 : rs_Ok S 8 v1) (hH : rs_H G Bm S σ H) (hT : rs_T S σ) (hS : va_S (rs_A Bm) s.heap H locs) (hl : lv_has ls 5 [(0, .ref (Bm + v0)), (1, .ref (Bm + v1)), (2, .int x2), (3, .int x3), (4, .int x4)]) (hF : B_Le_writeInward_90 S.2.2 Q v0 v1 x2 x3 x4 σ) :
    W p l e { frames := 2, cells := 0, slots := 0, locals := 47 } s m args below meth c H locs 0 0 (MQ below (rs_Qi G Bm S Q) args s 0 0 (rs_A Bm)) (F0 m 90 ls []) := by
  have hx := C.1
  have hb := C.2.1
  unfold B_Le_writeInward_90 at hF
  refine lv_aload_n hx hb d_Le_writeInward_90 rfl (lv_at hl 0 rfl) ?_
  refine lv_iconst hx hb d_Le_writeInward_91 ki_5 ?_
  refine lv_iload_n hx hb d_Le_writeInward_92 rfl (lv_at hl 2 rfl) ?_
  refine rs_cv (rs_runV C hH hT hl (J_Le_addValue l h_v0 hF) rc_Le_addValue tw_480 tw_482 ts_16 h_v0 ⟨rfl, by decide, by decide⟩ rfl ⟨⟨rfl, rfl⟩, by decide, by decide, by decide⟩ (Nat.le_of_ble_eq_true rfl) rfl d_Le_writeInward_93) hS (fun σ51 H locs hH hT hS hF => ?_)
  refine lv_iload hx hb d_Le_writeInward_96 (lv_at hl 4 rfl) ?_
  refine lv_if_eq hx hb d_Le_writeInward_98 (tgt := 129) rfl (fun hc => ?_) (fun hc => ?_)
  · replace hF := hF.1 hc
    exact JB_Le_writeInward_129 C v0 σ51 _ _ _ h_v0 hH hT hS (lv_sub hl [0] rfl) hF
  · replace hF := hF.2 hc
    refine lv_aload_n hx hb d_Le_writeInward_101 rfl (lv_at hl 0 rfl) ?_
    refine lv_bipush hx hb d_Le_writeInward_102 kb_9 ?_
    refine lv_aload_n hx hb d_Le_writeInward_104 rfl (lv_at hl 1 rfl) ?_
    refine lv_iload_n hx hb d_Le_writeInward_105 rfl (lv_at hl 3 rfl) ?_
    refine rs_ci (rs_runV C hH hT hl (J_Ro_sourceOr l h_v1 hF) rc_Ro_sourceOr tw_496 tw_432 tw_433 h_v1 ⟨rfl, by decide, by decide⟩ rfl ⟨⟨rfl, rfl⟩, by decide, by decide, by decide⟩ (Nat.le_of_ble_eq_true rfl) rfl d_Le_writeInward_106) hS (fun x53 σ52 H locs hH hT hS hF => ?_)
    refine rs_cv (rs_runV C hH hT hl (J_Le_addValue l h_v0 hF) rc_Le_addValue tw_480 tw_482 ts_16 h_v0 ⟨rfl, by decide, by decide⟩ rfl ⟨⟨rfl, rfl⟩, by decide, by decide, by decide⟩ (Nat.le_of_ble_eq_true rfl) rfl d_Le_writeInward_109) hS (fun σ54 H locs hH hT hS hF => ?_)
    refine lv_aload_n hx hb d_Le_writeInward_112 rfl (lv_at hl 0 rfl) ?_
    refine lv_bipush hx hb d_Le_writeInward_113 kb_10 ?_
    refine lv_bipush hx hb d_Le_writeInward_115 kb_7 ?_
    refine lv_iconst hx hb d_Le_writeInward_117 ki_1 ?_
    refine lv_aload_n hx hb d_Le_writeInward_118 rfl (lv_at hl 1 rfl) ?_
    refine rs_getR C hH hT h_v1 fk_8_8 tw_91 d_Le_writeInward_119 (fun h55 => ?_)
    refine lv_aload_n hx hb d_Le_writeInward_122 rfl (lv_at hl 1 rfl) ?_
    refine rs_getI C hH h_v1 fk_8_7 tw_88 d_Le_writeInward_123 ?_
    refine rs_cv (rs_runV C hH hT hl (J_Le_addList l h_v0 h55 hF) rc_Le_addList tw_484 tw_486 ts_17 h_v0 ⟨rfl, by decide, by decide⟩ rfl ⟨⟨rfl, rfl⟩, by decide, by decide, by decide⟩ (Nat.le_of_ble_eq_true rfl) rfl d_Le_writeInward_126) hS (fun σ56 H locs hH hT hS hF => ?_)
    exact JB_Le_writeInward_129 C v0 σ56 _ _ _ h_v0 hH hT hS (lv_sub hl [0] rfl) hF
set_option maxRecDepth 20000 in
theorem JB_Le_writeInward_30 {p : Program} {l : Launch} {e : Env} {s : State} {m : MethodId} {args : Array Value} {below : List Frame} {meth : Method} {c : Code} {G : rs_G} {Bm : Nat} {S : rs_Shp} {Q : Int32 → rs_Mem → Prop} (C : rs_C "RouteSpeaker$Letter" prog_4_method_4_code 5 (some .boolean) G p s m meth c args) (v0 : Nat) (v1 : Nat) (x2 : Int32) (x3 : Int32) (x4 : Int32) (σ : rs_Mem) (H : Heap) (locs : List Loc) (ls : Array Slot) (h_v0 : rs_Ok S 4 v0) (h_v1 : rs_Ok S 8 v1) (hH : rs_H G Bm S σ H) (hT : rs_T S σ) (hS : va_S (rs_A Bm) s.heap H locs) (hl : lv_has ls 5 [(0, .ref (Bm + v0)), (1, .ref (Bm + v1)), (2, .int x2), (3, .int x3), (4, .int x4)]) (hF : B_Le_writeInward_30 S.2.2 Q v0 v1 x2 x3 x4 σ) :
    W p l e { frames := 2, cells := 0, slots := 0, locals := 47 } s m args below meth c H locs 0 0 (MQ below (rs_Qi G Bm S Q) args s 0 0 (rs_A Bm)) (F0 m 30 ls []) := by
  have hx := C.1
  have hb := C.2.1
  unfold B_Le_writeInward_30 at hF
  refine lv_aload_n hx hb d_Le_writeInward_30 rfl (lv_at hl 0 rfl) ?_
  refine lv_iconst hx hb d_Le_writeInward_31 ki_0 ?_
  refine rs_cv (rs_runV C hH hT hl (J_Le_begin l h_v0 hF) rc_Le_begin tw_472 tw_474 ts_14 h_v0 ⟨rfl, by decide, by decide⟩ rfl ⟨⟨rfl, rfl⟩, by decide, by decide, by decide⟩ (Nat.le_of_ble_eq_true rfl) rfl d_Le_writeInward_32) hS (fun σ51 H locs hH hT hS hF => ?_)
  refine lv_aload_n hx hb d_Le_writeInward_35 rfl (lv_at hl 0 rfl) ?_
  refine lv_iconst hx hb d_Le_writeInward_36 ki_0 ?_
  refine rs_cv (rs_runV C hH hT hl (J_Le_add l h_v0 hF) rc_Le_add tw_476 tw_478 ts_15 h_v0 ⟨rfl, by decide, by decide⟩ rfl ⟨⟨rfl, rfl⟩, by decide, by decide, by decide⟩ (Nat.le_of_ble_eq_true rfl) rfl d_Le_writeInward_37) hS (fun σ52 H locs hH hT hS hF => ?_)
  refine lv_aload_n hx hb d_Le_writeInward_40 rfl (lv_at hl 0 rfl) ?_
  refine lv_iconst hx hb d_Le_writeInward_41 ki_1 ?_
  refine lv_aload_n hx hb d_Le_writeInward_42 rfl (lv_at hl 1 rfl) ?_
  refine rs_getI C hH h_v1 fk_8_0 tw_63 d_Le_writeInward_43 ?_
  refine rs_cv (rs_runV C hH hT hl (J_Le_addValue l h_v0 hF) rc_Le_addValue tw_480 tw_482 ts_16 h_v0 ⟨rfl, by decide, by decide⟩ rfl ⟨⟨rfl, rfl⟩, by decide, by decide, by decide⟩ (Nat.le_of_ble_eq_true rfl) rfl d_Le_writeInward_46) hS (fun σ53 H locs hH hT hS hF => ?_)
  refine lv_aload_n hx hb d_Le_writeInward_49 rfl (lv_at hl 0 rfl) ?_
  refine lv_iconst hx hb d_Le_writeInward_50 ki_2 ?_
  refine lv_iconst hx hb d_Le_writeInward_51 ki_0 ?_
  refine lv_iconst hx hb d_Le_writeInward_52 ki_0 ?_
  refine lv_aload_n hx hb d_Le_writeInward_53 rfl (lv_at hl 1 rfl) ?_
  refine rs_getR C hH hT h_v1 fk_8_2 tw_71 d_Le_writeInward_54 (fun h54 => ?_)
  refine lv_aload_n hx hb d_Le_writeInward_57 rfl (lv_at hl 1 rfl) ?_
  refine rs_getI C hH h_v1 fk_8_1 tw_67 d_Le_writeInward_58 ?_
  refine rs_cv (rs_runV C hH hT hl (J_Le_addList l h_v0 h54 hF) rc_Le_addList tw_484 tw_486 ts_17 h_v0 ⟨rfl, by decide, by decide⟩ rfl ⟨⟨rfl, rfl⟩, by decide, by decide, by decide⟩ (Nat.le_of_ble_eq_true rfl) rfl d_Le_writeInward_61) hS (fun σ55 H locs hH hT hS hF => ?_)
  refine lv_aload_n hx hb d_Le_writeInward_64 rfl (lv_at hl 0 rfl) ?_
  refine lv_iconst hx hb d_Le_writeInward_65 ki_3 ?_
  refine lv_aload_n hx hb d_Le_writeInward_66 rfl (lv_at hl 1 rfl) ?_
  refine rs_getI C hH h_v1 fk_8_3 tw_75 d_Le_writeInward_67 ?_
  refine rs_cv (rs_runV C hH hT hl (J_Le_addValue l h_v0 hF) rc_Le_addValue tw_480 tw_482 ts_16 h_v0 ⟨rfl, by decide, by decide⟩ rfl ⟨⟨rfl, rfl⟩, by decide, by decide, by decide⟩ (Nat.le_of_ble_eq_true rfl) rfl d_Le_writeInward_70) hS (fun σ56 H locs hH hT hS hF => ?_)
  refine lv_aload_n hx hb d_Le_writeInward_73 rfl (lv_at hl 1 rfl) ?_
  refine rs_getI C hH h_v1 fk_8_4 tw_79 d_Le_writeInward_74 ?_
  refine lv_iconst hx hb d_Le_writeInward_77 ki_m1 ?_
  refine lv_icmp_eq hx hb d_Le_writeInward_78 (tgt := 90) rfl (fun hc => ?_) (fun hc => ?_)
  · replace hF := hF.1 hc
    exact JB_Le_writeInward_90 C v0 v1 x2 x3 x4 σ56 _ _ _ h_v0 h_v1 hH hT hS (lv_sub hl [0, 1, 2, 3, 4] rfl) hF
  · replace hF := hF.2 hc
    refine lv_aload_n hx hb d_Le_writeInward_81 rfl (lv_at hl 0 rfl) ?_
    refine lv_iconst hx hb d_Le_writeInward_82 ki_4 ?_
    refine lv_aload_n hx hb d_Le_writeInward_83 rfl (lv_at hl 1 rfl) ?_
    refine rs_getI C hH h_v1 fk_8_4 tw_79 d_Le_writeInward_84 ?_
    refine rs_cv (rs_runV C hH hT hl (J_Le_addValue l h_v0 hF) rc_Le_addValue tw_480 tw_482 ts_16 h_v0 ⟨rfl, by decide, by decide⟩ rfl ⟨⟨rfl, rfl⟩, by decide, by decide, by decide⟩ (Nat.le_of_ble_eq_true rfl) rfl d_Le_writeInward_87) hS (fun σ57 H locs hH hT hS hF => ?_)
    exact JB_Le_writeInward_90 C v0 v1 x2 x3 x4 σ57 _ _ _ h_v0 h_v1 hH hT hS (lv_sub hl [0, 1, 2, 3, 4] rfl) hF
set_option maxRecDepth 20000 in
theorem JB_Le_writeInward_10 {p : Program} {l : Launch} {e : Env} {s : State} {m : MethodId} {args : Array Value} {below : List Frame} {meth : Method} {c : Code} {G : rs_G} {Bm : Nat} {S : rs_Shp} {Q : Int32 → rs_Mem → Prop} (C : rs_C "RouteSpeaker$Letter" prog_4_method_4_code 5 (some .boolean) G p s m meth c args) (v0 : Nat) (v1 : Nat) (x2 : Int32) (x3 : Int32) (y0 : Int32) (σ : rs_Mem) (H : Heap) (locs : List Loc) (ls : Array Slot) (h_v0 : rs_Ok S 4 v0) (h_v1 : rs_Ok S 8 v1) (hH : rs_H G Bm S σ H) (hT : rs_T S σ) (hS : va_S (rs_A Bm) s.heap H locs) (hl : lv_has ls 5 [(0, .ref (Bm + v0)), (1, .ref (Bm + v1)), (2, .int x2), (3, .int x3)]) (hF : B_Le_writeInward_10 S.2.2 Q v0 v1 x2 x3 y0 σ) :
    W p l e { frames := 2, cells := 0, slots := 0, locals := 47 } s m args below meth c H locs 0 0 (MQ below (rs_Qi G Bm S Q) args s 0 0 (rs_A Bm)) (F0 m 10 ls [.int y0]) := by
  have hx := C.1
  have hb := C.2.1
  unfold B_Le_writeInward_10 at hF
  refine lv_istore hx hb d_Le_writeInward_10 hl (by decide) (lv' := [(4, .int y0), (0, .ref (Bm + v0)), (1, .ref (Bm + v1)), (2, .int x2), (3, .int x3)]) rfl (fun ls hl => ?_)
  refine lv_iload hx hb d_Le_writeInward_12 (lv_at hl 0 rfl) ?_
  refine lv_if_eq hx hb d_Le_writeInward_14 (tgt := 30) rfl (fun hc => ?_) (fun hc => ?_)
  · replace hF := hF.1 hc
    exact JB_Le_writeInward_30 C v0 v1 x2 x3 y0 σ _ _ _ h_v0 h_v1 hH hT hS (lv_sub hl [1, 2, 3, 4, 0] rfl) hF
  · replace hF := hF.2 hc
    refine lv_aload_n hx hb d_Le_writeInward_17 rfl (lv_at hl 2 rfl) ?_
    refine rs_getI C hH h_v1 fk_8_7 tw_88 d_Le_writeInward_18 ?_
    refine lv_iconst hx hb d_Le_writeInward_21 ki_1 ?_
    refine lv_iadd hx hb d_Le_writeInward_22 ?_
    refine lv_bipush hx hb d_Le_writeInward_23 kb_6 ?_
    refine lv_icmp_le hx hb d_Le_writeInward_25 (tgt := 30) rfl (fun hc => ?_) (fun hc => ?_)
    · replace hF := hF.1 hc
      exact JB_Le_writeInward_30 C v0 v1 x2 x3 y0 σ _ _ _ h_v0 h_v1 hH hT hS (lv_sub hl [1, 2, 3, 4, 0] rfl) hF
    · replace hF := hF.2 hc
      refine lv_iconst hx hb d_Le_writeInward_28 ki_0 ?_
      exact rs_zret C hH hT hS (by decide) hF d_Le_writeInward_29
abbrev y_Le_writeInward : MethodName := ({ cls := "RouteSpeaker$Letter", name := "writeInward", desc := "(LRouteSpeaker$Route;II)Z" } : Jvm.MethodName)
theorem rc_Le_writeInward : rs_Cal y_Le_writeInward prog_4_method_4_code 5 (some .boolean) 3 := ⟨tw_495, tw_6, by decide, by decide, by decide +kernel⟩
set_option maxRecDepth 20000 in
theorem J_Le_writeInward (l : Launch) {G : rs_G} {Bm : Nat} {S : rs_Shp} {v0 : Nat} {v1 : Nat} {x2 : Int32} {x3 : Int32} {σ : rs_Mem} {Q : Int32 → rs_Mem → Prop} (h_v0 : rs_Ok S 4 v0) (h_v1 : rs_Ok S 8 v1) (hF : F_Le_writeInward S.2.2 v0 v1 x2 x3 σ Q) :
    Met l y_Le_writeInward (rs_ws y_Le_writeInward prog_4_method_4_code 5 (some .boolean)) { frames := 2, cells := 0, slots := 0, locals := 47 } (rs_P G Bm S σ [.ref (Bm + v0), .ref (Bm + v1), .int x2, .int x3]) (rs_Qi G Bm S Q) 0 0 (rs_A Bm) := by
  refine rs_met (own := "RouteSpeaker$Letter") (by decide) rfl (Nat.le_of_ble_eq_true rfl) (fun p e s m below meth c ls C hl hH hT hS => ?_)
  replace hl : lv_has ls 5 [(0, .ref (Bm + v0)), (1, .ref (Bm + v1)), (2, .int x2), (3, .int x3)] := hl
  have hx := C.1
  have hb := C.2.1
  unfold F_Le_writeInward at hF
  refine lv_iload_n hx hb d_Le_writeInward_0 rfl (lv_at hl 3 rfl) ?_
  refine lv_iconst hx hb d_Le_writeInward_1 ki_m1 ?_
  refine lv_icmp_eq hx hb d_Le_writeInward_2 (tgt := 9) rfl (fun hc => ?_) (fun hc => ?_)
  · replace hF := hF.1 hc
    refine lv_iconst hx hb d_Le_writeInward_9 ki_0 ?_
    exact JB_Le_writeInward_10 C v0 v1 x2 x3 (0 : Int32) σ _ _ _ h_v0 h_v1 hH hT hS (lv_sub hl [0, 1, 2, 3] rfl) hF
  · replace hF := hF.2 hc
    refine lv_iconst hx hb d_Le_writeInward_5 ki_1 ?_
    refine lv_goto hx hb d_Le_writeInward_6 (tgt := 10) rfl ?_
    exact JB_Le_writeInward_10 C v0 v1 x2 x3 (1 : Int32) σ _ _ _ h_v0 h_v1 hH hT hS (lv_sub hl [0, 1, 2, 3] rfl) hF
/-! RouteSpeaker$Peer.isTold(ILRouteSpeaker$Letter;)Z -/
theorem d_Pe_isTold_0 : decode prog_6_method_12_code 0 = .ok (.iconst 0, 1) := by decide +kernel
theorem d_Pe_isTold_1 : decode prog_6_method_12_code 1 = .ok (.istore_n 3, 1) := by decide +kernel
theorem d_Pe_isTold_2 : decode prog_6_method_12_code 2 = .ok (.iload_n 3, 1) := by decide +kernel
theorem d_Pe_isTold_3 : decode prog_6_method_12_code 3 = .ok (.aload_n 2, 1) := by decide +kernel
theorem d_Pe_isTold_4 : decode prog_6_method_12_code 4 = .ok (.getfield 106, 3) := by decide +kernel
theorem d_Pe_isTold_7 : decode prog_6_method_12_code 7 = .ok (.if_icmp .ge (34), 3) := by decide +kernel
theorem d_Pe_isTold_10 : decode prog_6_method_12_code 10 = .ok (.iload_n 3, 1) := by decide +kernel
theorem d_Pe_isTold_11 : decode prog_6_method_12_code 11 = .ok (.bipush (40), 2) := by decide +kernel
theorem d_Pe_isTold_13 : decode prog_6_method_12_code 13 = .ok (.if_icmp .ge (28), 3) := by decide +kernel
theorem d_Pe_isTold_16 : decode prog_6_method_12_code 16 = .ok (.aload_n 0, 1) := by decide +kernel
theorem d_Pe_isTold_17 : decode prog_6_method_12_code 17 = .ok (.getfield 45, 3) := by decide +kernel
theorem d_Pe_isTold_20 : decode prog_6_method_12_code 20 = .ok (.iload_n 1, 1) := by decide +kernel
theorem d_Pe_isTold_21 : decode prog_6_method_12_code 21 = .ok (.aaload, 1) := by decide +kernel
theorem d_Pe_isTold_22 : decode prog_6_method_12_code 22 = .ok (.iload_n 3, 1) := by decide +kernel
theorem d_Pe_isTold_23 : decode prog_6_method_12_code 23 = .ok (.iaload, 1) := by decide +kernel
theorem d_Pe_isTold_24 : decode prog_6_method_12_code 24 = .ok (.aload_n 2, 1) := by decide +kernel
theorem d_Pe_isTold_25 : decode prog_6_method_12_code 25 = .ok (.getfield 111, 3) := by decide +kernel
theorem d_Pe_isTold_28 : decode prog_6_method_12_code 28 = .ok (.iload_n 3, 1) := by decide +kernel
theorem d_Pe_isTold_29 : decode prog_6_method_12_code 29 = .ok (.iaload, 1) := by decide +kernel
theorem d_Pe_isTold_30 : decode prog_6_method_12_code 30 = .ok (.if_icmp .eq (5), 3) := by decide +kernel
theorem d_Pe_isTold_33 : decode prog_6_method_12_code 33 = .ok (.iconst 0, 1) := by decide +kernel
theorem d_Pe_isTold_34 : decode prog_6_method_12_code 34 = .ok (.ireturn, 1) := by decide +kernel
theorem d_Pe_isTold_35 : decode prog_6_method_12_code 35 = .ok (.iinc 3 (1), 3) := by decide +kernel
theorem d_Pe_isTold_38 : decode prog_6_method_12_code 38 = .ok (.goto (-36), 3) := by decide +kernel
theorem d_Pe_isTold_41 : decode prog_6_method_12_code 41 = .ok (.iconst 1, 1) := by decide +kernel
theorem d_Pe_isTold_42 : decode prog_6_method_12_code 42 = .ok (.ireturn, 1) := by decide +kernel
def G_Pe_isTold_2 (N : Nat → Nat) (Q : Int32 → rs_Mem → Prop) (K2 : Nat → Int32 → Nat → Int32 → rs_Mem → Prop) (v0 : Nat) (x1 : Int32) (v2 : Nat) (x3 : Int32) (σ : rs_Mem) : Prop :=
  (((rs_I σ v2 1) ≤ x3 → (Q (1 : Int32) σ)) ∧ (¬ ((rs_I σ v2 1) ≤ x3) → (((40 : Int32) ≤ x3 → (Q (1 : Int32) σ)) ∧ (¬ ((40 : Int32) ≤ x3) → (vp_in x1 (N (rs_R σ v0 16)) ∧ (vp_in x3 (N (rs_R σ (rs_R σ v0 16) x1.toNatClampNeg)) ∧ (vp_in x3 (N (rs_R σ v2 0)) ∧ (((rs_I σ (rs_R σ (rs_R σ v0 16) x1.toNatClampNeg) x3.toNatClampNeg) = (rs_I σ (rs_R σ v2 0) x3.toNatClampNeg) → (∀ x57 : Int32, x57 = x3 + (1 : Int32) → (K2 v0 x1 v2 x57 σ))) ∧ (¬ ((rs_I σ (rs_R σ (rs_R σ v0 16) x1.toNatClampNeg) x3.toNatClampNeg) = (rs_I σ (rs_R σ v2 0) x3.toNatClampNeg)) → (Q (0 : Int32) σ))))))))))
noncomputable def L_Pe_isTold_2 (N : Nat → Nat) (Q : Int32 → rs_Mem → Prop) (n : Nat) : Nat → Int32 → Nat → Int32 → rs_Mem → Prop := Nat.rec (motive := fun _ => Nat → Int32 → Nat → Int32 → rs_Mem → Prop) (fun _ _ _ _ _ => False) (fun _ K => G_Pe_isTold_2 N Q K) n
def F_Pe_isTold (N : Nat → Nat) (v0 : Nat) (x1 : Int32) (v2 : Nat) (σ : rs_Mem) (Q : Int32 → rs_Mem → Prop) : Prop :=
  (∃ n : Nat, L_Pe_isTold_2 N Q n v0 x1 v2 (0 : Int32) σ)
set_option maxRecDepth 20000 in
theorem JL_Pe_isTold_2 {p : Program} {l : Launch} {e : Env} {s : State} {m : MethodId} {args : Array Value} {below : List Frame} {meth : Method} {c : Code} {G : rs_G} {Bm : Nat} {S : rs_Shp} {Q : Int32 → rs_Mem → Prop} (C : rs_C "RouteSpeaker$Peer" prog_6_method_12_code 4 (some .boolean) G p s m meth c args) : ∀ n : Nat, ∀ (v0 : Nat) (x1 : Int32) (v2 : Nat) (x3 : Int32) (σ : rs_Mem) (H : Heap) (locs : List Loc) (ls : Array Slot), rs_Ok S 6 v0 → rs_Ok S 4 v2 → rs_H G Bm S σ H → rs_T S σ → va_S (rs_A Bm) s.heap H locs → lv_has ls 4 [(0, .ref (Bm + v0)), (1, .int x1), (2, .ref (Bm + v2)), (3, .int x3)] → (L_Pe_isTold_2 S.2.2 Q n) v0 x1 v2 x3 σ → W p l e { frames := 0, cells := 0, slots := 0, locals := 0 } s m args below meth c H locs 0 0 (MQ below (rs_Qi G Bm S Q) args s 0 0 (rs_A Bm)) (F0 m 2 ls []) := by
  have hx := C.1
  have hb := C.2.1
  intro n
  induction n with
  | zero => intros; rename_i hF; exact hF.elim
  | succ n hK2 =>
    intro v0 x1 v2 x3 σ H locs ls h_v0 h_v2 hH hT hS hl hF
    replace hF : G_Pe_isTold_2 S.2.2 Q (L_Pe_isTold_2 S.2.2 Q n) v0 x1 v2 x3 σ := hF
    unfold G_Pe_isTold_2 at hF
    refine lv_iload_n hx hb d_Pe_isTold_2 rfl (lv_at hl 3 rfl) ?_
    refine lv_aload_n hx hb d_Pe_isTold_3 rfl (lv_at hl 2 rfl) ?_
    refine rs_getI C hH h_v2 fk_4_1 tw_175 d_Pe_isTold_4 ?_
    refine lv_icmp_ge hx hb d_Pe_isTold_7 (tgt := 41) rfl (fun hc => ?_) (fun hc => ?_)
    · replace hF := hF.1 hc
      refine lv_iconst hx hb d_Pe_isTold_41 ki_1 ?_
      exact rs_zret C hH hT hS (by decide) hF d_Pe_isTold_42
    · replace hF := hF.2 hc
      refine lv_iload_n hx hb d_Pe_isTold_10 rfl (lv_at hl 3 rfl) ?_
      refine lv_bipush hx hb d_Pe_isTold_11 kb_40 ?_
      refine lv_icmp_ge hx hb d_Pe_isTold_13 (tgt := 41) rfl (fun hc => ?_) (fun hc => ?_)
      · replace hF := hF.1 hc
        refine lv_iconst hx hb d_Pe_isTold_41 ki_1 ?_
        exact rs_zret C hH hT hS (by decide) hF d_Pe_isTold_42
      · replace hF := hF.2 hc
        refine lv_aload_n hx hb d_Pe_isTold_16 rfl (lv_at hl 0 rfl) ?_
        refine rs_getR C hH hT h_v0 fk_6_16 tw_284 d_Pe_isTold_17 (fun h51 => ?_)
        refine lv_iload_n hx hb d_Pe_isTold_20 rfl (lv_at hl 1 rfl) ?_
        obtain ⟨g52, hF⟩ := hF
        refine rs_aald C hH hT h51 ak_26 g52 d_Pe_isTold_21 (fun h53 => ?_)
        refine lv_iload_n hx hb d_Pe_isTold_22 rfl (lv_at hl 3 rfl) ?_
        obtain ⟨g54, hF⟩ := hF
        refine rs_iald C hH h53 g54 d_Pe_isTold_23 ?_
        refine lv_aload_n hx hb d_Pe_isTold_24 rfl (lv_at hl 2 rfl) ?_
        refine rs_getR C hH hT h_v2 fk_4_0 tw_173 d_Pe_isTold_25 (fun h55 => ?_)
        refine lv_iload_n hx hb d_Pe_isTold_28 rfl (lv_at hl 3 rfl) ?_
        obtain ⟨g56, hF⟩ := hF
        refine rs_iald C hH h55 g56 d_Pe_isTold_29 ?_
        refine lv_icmp_eq hx hb d_Pe_isTold_30 (tgt := 35) rfl (fun hc => ?_) (fun hc => ?_)
        · replace hF := hF.1 hc
          obtain ⟨x57, ex57⟩ : ∃ z : Int32, z = x3 + (1 : Int32) := ⟨_, rfl⟩
          replace hF := hF x57 ex57
          refine lv_iinc hx hb d_Pe_isTold_35 hl (k := 3) rfl (v := x57) (by rw [ki_1, ex57]) (by decide) (lv' := [(3, .int x57), (0, .ref (Bm + v0)), (1, .int x1), (2, .ref (Bm + v2))]) rfl (fun ls hl => ?_)
          refine lv_goto hx hb d_Pe_isTold_38 (tgt := 2) rfl ?_
          exact hK2 v0 x1 v2 x57 σ _ _ _ h_v0 h_v2 hH hT hS (lv_sub hl [1, 2, 3, 0] rfl) hF
        · replace hF := hF.2 hc
          refine lv_iconst hx hb d_Pe_isTold_33 ki_0 ?_
          exact rs_zret C hH hT hS (by decide) hF d_Pe_isTold_34
abbrev y_Pe_isTold : MethodName := ({ cls := "RouteSpeaker$Peer", name := "isTold", desc := "(ILRouteSpeaker$Letter;)Z" } : Jvm.MethodName)
theorem rc_Pe_isTold : rs_Cal y_Pe_isTold prog_6_method_12_code 4 (some .boolean) 2 := ⟨tw_504, tw_7, by decide, by decide, by decide +kernel⟩
set_option maxRecDepth 20000 in
theorem J_Pe_isTold (l : Launch) {G : rs_G} {Bm : Nat} {S : rs_Shp} {v0 : Nat} {x1 : Int32} {v2 : Nat} {σ : rs_Mem} {Q : Int32 → rs_Mem → Prop} (h_v0 : rs_Ok S 6 v0) (h_v2 : rs_Ok S 4 v2) (hF : F_Pe_isTold S.2.2 v0 x1 v2 σ Q) :
    Met l y_Pe_isTold (rs_ws y_Pe_isTold prog_6_method_12_code 4 (some .boolean)) { frames := 0, cells := 0, slots := 0, locals := 0 } (rs_P G Bm S σ [.ref (Bm + v0), .int x1, .ref (Bm + v2)]) (rs_Qi G Bm S Q) 0 0 (rs_A Bm) := by
  refine rs_met (own := "RouteSpeaker$Peer") (by decide) rfl (Nat.le_of_ble_eq_true rfl) (fun p e s m below meth c ls C hl hH hT hS => ?_)
  replace hl : lv_has ls 4 [(0, .ref (Bm + v0)), (1, .int x1), (2, .ref (Bm + v2))] := hl
  have hx := C.1
  have hb := C.2.1
  unfold F_Pe_isTold at hF
  refine lv_iconst hx hb d_Pe_isTold_0 ki_0 ?_
  refine lv_istore_n hx hb d_Pe_isTold_1 rfl hl (by decide) (lv' := [(3, .int (0 : Int32)), (0, .ref (Bm + v0)), (1, .int x1), (2, .ref (Bm + v2))]) rfl (fun ls hl => ?_)
  obtain ⟨n, hF⟩ := hF
  exact JL_Pe_isTold_2 C n v0 x1 v2 (0 : Int32) σ _ _ _ h_v0 h_v2 hH hT hS (lv_sub hl [1, 2, 3, 0] rfl) hF
/-! RouteSpeaker$Outbox.put([II)Z -/
theorem d_Ob_put_0 : decode prog_5_method_2_code 0 = .ok (.iload_n 2, 1) := by decide +kernel
theorem d_Ob_put_1 : decode prog_5_method_2_code 1 = .ok (.ifCond .lt (21), 3) := by decide +kernel
theorem d_Ob_put_4 : decode prog_5_method_2_code 4 = .ok (.iload_n 2, 1) := by decide +kernel
theorem d_Ob_put_5 : decode prog_5_method_2_code 5 = .ok (.aload_n 1, 1) := by decide +kernel
theorem d_Ob_put_6 : decode prog_5_method_2_code 6 = .ok (.arraylength, 1) := by decide +kernel
theorem d_Ob_put_7 : decode prog_5_method_2_code 7 = .ok (.if_icmp .gt (15), 3) := by decide +kernel
theorem d_Ob_put_10 : decode prog_5_method_2_code 10 = .ok (.aload_n 0, 1) := by decide +kernel
theorem d_Ob_put_11 : decode prog_5_method_2_code 11 = .ok (.getfield 15, 3) := by decide +kernel
theorem d_Ob_put_14 : decode prog_5_method_2_code 14 = .ok (.iload_n 2, 1) := by decide +kernel
theorem d_Ob_put_15 : decode prog_5_method_2_code 15 = .ok (.iadd, 1) := by decide +kernel
theorem d_Ob_put_16 : decode prog_5_method_2_code 16 = .ok (.sipush (200), 3) := by decide +kernel
theorem d_Ob_put_19 : decode prog_5_method_2_code 19 = .ok (.if_icmp .le (5), 3) := by decide +kernel
theorem d_Ob_put_22 : decode prog_5_method_2_code 22 = .ok (.iconst 0, 1) := by decide +kernel
theorem d_Ob_put_23 : decode prog_5_method_2_code 23 = .ok (.ireturn, 1) := by decide +kernel
theorem d_Ob_put_24 : decode prog_5_method_2_code 24 = .ok (.iconst 0, 1) := by decide +kernel
theorem d_Ob_put_25 : decode prog_5_method_2_code 25 = .ok (.istore_n 3, 1) := by decide +kernel
theorem d_Ob_put_26 : decode prog_5_method_2_code 26 = .ok (.iload_n 3, 1) := by decide +kernel
theorem d_Ob_put_27 : decode prog_5_method_2_code 27 = .ok (.iload_n 2, 1) := by decide +kernel
theorem d_Ob_put_28 : decode prog_5_method_2_code 28 = .ok (.if_icmp .ge (40), 3) := by decide +kernel
theorem d_Ob_put_31 : decode prog_5_method_2_code 31 = .ok (.aload_n 0, 1) := by decide +kernel
theorem d_Ob_put_32 : decode prog_5_method_2_code 32 = .ok (.getfield 9, 3) := by decide +kernel
theorem d_Ob_put_35 : decode prog_5_method_2_code 35 = .ok (.aload_n 0, 1) := by decide +kernel
theorem d_Ob_put_36 : decode prog_5_method_2_code 36 = .ok (.getfield 19, 3) := by decide +kernel
theorem d_Ob_put_39 : decode prog_5_method_2_code 39 = .ok (.aload_n 0, 1) := by decide +kernel
theorem d_Ob_put_40 : decode prog_5_method_2_code 40 = .ok (.getfield 15, 3) := by decide +kernel
theorem d_Ob_put_43 : decode prog_5_method_2_code 43 = .ok (.iadd, 1) := by decide +kernel
theorem d_Ob_put_44 : decode prog_5_method_2_code 44 = .ok (.sipush (200), 3) := by decide +kernel
theorem d_Ob_put_47 : decode prog_5_method_2_code 47 = .ok (.irem, 1) := by decide +kernel
theorem d_Ob_put_48 : decode prog_5_method_2_code 48 = .ok (.aload_n 1, 1) := by decide +kernel
theorem d_Ob_put_49 : decode prog_5_method_2_code 49 = .ok (.iload_n 3, 1) := by decide +kernel
theorem d_Ob_put_50 : decode prog_5_method_2_code 50 = .ok (.iaload, 1) := by decide +kernel
theorem d_Ob_put_51 : decode prog_5_method_2_code 51 = .ok (.iastore, 1) := by decide +kernel
theorem d_Ob_put_52 : decode prog_5_method_2_code 52 = .ok (.aload_n 0, 1) := by decide +kernel
theorem d_Ob_put_53 : decode prog_5_method_2_code 53 = .ok (.dup, 1) := by decide +kernel
theorem d_Ob_put_54 : decode prog_5_method_2_code 54 = .ok (.getfield 15, 3) := by decide +kernel
theorem d_Ob_put_57 : decode prog_5_method_2_code 57 = .ok (.iconst 1, 1) := by decide +kernel
theorem d_Ob_put_58 : decode prog_5_method_2_code 58 = .ok (.iadd, 1) := by decide +kernel
theorem d_Ob_put_59 : decode prog_5_method_2_code 59 = .ok (.putfield 15, 3) := by decide +kernel
theorem d_Ob_put_62 : decode prog_5_method_2_code 62 = .ok (.iinc 3 (1), 3) := by decide +kernel
theorem d_Ob_put_65 : decode prog_5_method_2_code 65 = .ok (.goto (-39), 3) := by decide +kernel
theorem d_Ob_put_68 : decode prog_5_method_2_code 68 = .ok (.iconst 1, 1) := by decide +kernel
theorem d_Ob_put_69 : decode prog_5_method_2_code 69 = .ok (.ireturn, 1) := by decide +kernel
def G_Ob_put_26 (N : Nat → Nat) (Q : Int32 → rs_Mem → Prop) (K26 : Nat → Nat → Int32 → Int32 → rs_Mem → Prop) (v0 : Nat) (v1 : Nat) (x2 : Int32) (x3 : Int32) (σ : rs_Mem) : Prop :=
  ((x2 ≤ x3 → (Q (1 : Int32) σ)) ∧ (¬ (x2 ≤ x3) → (vp_in x3 (N v1) ∧ (vp_in (((rs_I σ v0 1) + (rs_I σ v0 2)) - ((rs_I σ v0 1) + (rs_I σ v0 2)) / (200 : Int32) * (200 : Int32)) (N (rs_R σ v0 0)) ∧ ∀ σ54 : rs_Mem, σ54 = rs_sI σ (rs_R σ v0 0) (((rs_I σ v0 1) + (rs_I σ v0 2)) - ((rs_I σ v0 1) + (rs_I σ v0 2)) / (200 : Int32) * (200 : Int32)).toNatClampNeg (rs_I σ v1 x3.toNatClampNeg) → (∀ σ55 : rs_Mem, σ55 = rs_sI σ54 v0 2 ((rs_I σ54 v0 2) + (1 : Int32)) → (∀ x56 : Int32, x56 = x3 + (1 : Int32) → (K26 v0 v1 x2 x56 σ55)))))))
noncomputable def L_Ob_put_26 (N : Nat → Nat) (Q : Int32 → rs_Mem → Prop) (n : Nat) : Nat → Nat → Int32 → Int32 → rs_Mem → Prop := Nat.rec (motive := fun _ => Nat → Nat → Int32 → Int32 → rs_Mem → Prop) (fun _ _ _ _ _ => False) (fun _ K => G_Ob_put_26 N Q K) n
def F_Ob_put (N : Nat → Nat) (v0 : Nat) (v1 : Nat) (x2 : Int32) (σ : rs_Mem) (Q : Int32 → rs_Mem → Prop) : Prop :=
  ((x2 < 0 → (Q (0 : Int32) σ)) ∧ (¬ (x2 < 0) → (((nI (N v1)) < x2 → (Q (0 : Int32) σ)) ∧ (¬ ((nI (N v1)) < x2) → ((((rs_I σ v0 2) + x2) ≤ (200 : Int32) → (∃ n : Nat, L_Ob_put_26 N Q n v0 v1 x2 (0 : Int32) σ)) ∧ (¬ (((rs_I σ v0 2) + x2) ≤ (200 : Int32)) → (Q (0 : Int32) σ)))))))
set_option maxRecDepth 20000 in
theorem JL_Ob_put_26 {p : Program} {l : Launch} {e : Env} {s : State} {m : MethodId} {args : Array Value} {below : List Frame} {meth : Method} {c : Code} {G : rs_G} {Bm : Nat} {S : rs_Shp} {Q : Int32 → rs_Mem → Prop} (C : rs_C "RouteSpeaker$Outbox" prog_5_method_2_code 4 (some .boolean) G p s m meth c args) : ∀ n : Nat, ∀ (v0 : Nat) (v1 : Nat) (x2 : Int32) (x3 : Int32) (σ : rs_Mem) (H : Heap) (locs : List Loc) (ls : Array Slot), rs_Ok S 5 v0 → rs_Ok S 20 v1 → rs_H G Bm S σ H → rs_T S σ → va_S (rs_A Bm) s.heap H locs → lv_has ls 4 [(0, .ref (Bm + v0)), (1, .ref (Bm + v1)), (2, .int x2), (3, .int x3)] → (L_Ob_put_26 S.2.2 Q n) v0 v1 x2 x3 σ → W p l e { frames := 0, cells := 0, slots := 0, locals := 0 } s m args below meth c H locs 0 0 (MQ below (rs_Qi G Bm S Q) args s 0 0 (rs_A Bm)) (F0 m 26 ls []) := by
  have hx := C.1
  have hb := C.2.1
  intro n
  induction n with
  | zero => intros; rename_i hF; exact hF.elim
  | succ n hK26 =>
    intro v0 v1 x2 x3 σ H locs ls h_v0 h_v1 hH hT hS hl hF
    replace hF : G_Ob_put_26 S.2.2 Q (L_Ob_put_26 S.2.2 Q n) v0 v1 x2 x3 σ := hF
    unfold G_Ob_put_26 at hF
    refine lv_iload_n hx hb d_Ob_put_26 rfl (lv_at hl 3 rfl) ?_
    refine lv_iload_n hx hb d_Ob_put_27 rfl (lv_at hl 2 rfl) ?_
    refine lv_icmp_ge hx hb d_Ob_put_28 (tgt := 68) rfl (fun hc => ?_) (fun hc => ?_)
    · replace hF := hF.1 hc
      refine lv_iconst hx hb d_Ob_put_68 ki_1 ?_
      exact rs_zret C hH hT hS (by decide) hF d_Ob_put_69
    · replace hF := hF.2 hc
      refine lv_aload_n hx hb d_Ob_put_31 rfl (lv_at hl 0 rfl) ?_
      refine rs_getR C hH hT h_v0 fk_5_0 tw_217 d_Ob_put_32 (fun h51 => ?_)
      refine lv_aload_n hx hb d_Ob_put_35 rfl (lv_at hl 0 rfl) ?_
      refine rs_getI C hH h_v0 fk_5_1 tw_218 d_Ob_put_36 ?_
      refine lv_aload_n hx hb d_Ob_put_39 rfl (lv_at hl 0 rfl) ?_
      refine rs_getI C hH h_v0 fk_5_2 tw_219 d_Ob_put_40 ?_
      refine lv_iadd hx hb d_Ob_put_43 ?_
      refine lv_sipush hx hb d_Ob_put_44 ks_200 ?_
      refine lv_irem hx hb d_Ob_put_47 (by decide) ?_
      refine lv_aload_n hx hb d_Ob_put_48 rfl (lv_at hl 1 rfl) ?_
      refine lv_iload_n hx hb d_Ob_put_49 rfl (lv_at hl 3 rfl) ?_
      obtain ⟨g52, hF⟩ := hF
      refine rs_iald C hH h_v1 g52 d_Ob_put_50 ?_
      obtain ⟨g53, hF⟩ := hF
      refine rs_iast C hH hT hS h51 g53 d_Ob_put_51 (fun σ54 H locs eσ54 hH hT hS => ?_)
      replace hF := hF σ54 eσ54
      refine lv_aload_n hx hb d_Ob_put_52 rfl (lv_at hl 0 rfl) ?_
      refine lv_dup hx hb d_Ob_put_53 rfl ?_
      refine rs_getI C hH h_v0 fk_5_2 tw_219 d_Ob_put_54 ?_
      refine lv_iconst hx hb d_Ob_put_57 ki_1 ?_
      refine lv_iadd hx hb d_Ob_put_58 ?_
      refine rs_putI C hH hT hS h_v0 fk_5_2 rfl tw_219 d_Ob_put_59 (fun σ55 H locs eσ55 hH hT hS => ?_)
      replace hF := hF σ55 eσ55
      obtain ⟨x56, ex56⟩ : ∃ z : Int32, z = x3 + (1 : Int32) := ⟨_, rfl⟩
      replace hF := hF x56 ex56
      refine lv_iinc hx hb d_Ob_put_62 hl (k := 3) rfl (v := x56) (by rw [ki_1, ex56]) (by decide) (lv' := [(3, .int x56), (0, .ref (Bm + v0)), (1, .ref (Bm + v1)), (2, .int x2)]) rfl (fun ls hl => ?_)
      refine lv_goto hx hb d_Ob_put_65 (tgt := 26) rfl ?_
      exact hK26 v0 v1 x2 x56 σ55 _ _ _ h_v0 h_v1 hH hT hS (lv_sub hl [1, 2, 3, 0] rfl) hF
abbrev y_Ob_put : MethodName := ({ cls := "RouteSpeaker$Outbox", name := "put", desc := "([II)Z" } : Jvm.MethodName)
theorem rc_Ob_put : rs_Cal y_Ob_put prog_5_method_2_code 4 (some .boolean) 2 := ⟨tw_358, tw_9, by decide, by decide, by decide +kernel⟩
set_option maxRecDepth 20000 in
theorem J_Ob_put (l : Launch) {G : rs_G} {Bm : Nat} {S : rs_Shp} {v0 : Nat} {v1 : Nat} {x2 : Int32} {σ : rs_Mem} {Q : Int32 → rs_Mem → Prop} (h_v0 : rs_Ok S 5 v0) (h_v1 : rs_Ok S 20 v1) (hF : F_Ob_put S.2.2 v0 v1 x2 σ Q) :
    Met l y_Ob_put (rs_ws y_Ob_put prog_5_method_2_code 4 (some .boolean)) { frames := 0, cells := 0, slots := 0, locals := 0 } (rs_P G Bm S σ [.ref (Bm + v0), .ref (Bm + v1), .int x2]) (rs_Qi G Bm S Q) 0 0 (rs_A Bm) := by
  refine rs_met (own := "RouteSpeaker$Outbox") (by decide) rfl (Nat.le_of_ble_eq_true rfl) (fun p e s m below meth c ls C hl hH hT hS => ?_)
  replace hl : lv_has ls 4 [(0, .ref (Bm + v0)), (1, .ref (Bm + v1)), (2, .int x2)] := hl
  have hx := C.1
  have hb := C.2.1
  unfold F_Ob_put at hF
  refine lv_iload_n hx hb d_Ob_put_0 rfl (lv_at hl 2 rfl) ?_
  refine lv_if_lt hx hb d_Ob_put_1 (tgt := 22) rfl (fun hc => ?_) (fun hc => ?_)
  · replace hF := hF.1 hc
    refine lv_iconst hx hb d_Ob_put_22 ki_0 ?_
    exact rs_zret C hH hT hS (by decide) hF d_Ob_put_23
  · replace hF := hF.2 hc
    refine lv_iload_n hx hb d_Ob_put_4 rfl (lv_at hl 2 rfl) ?_
    refine lv_aload_n hx hb d_Ob_put_5 rfl (lv_at hl 1 rfl) ?_
    refine rs_alen C hH h_v1 (by decide) d_Ob_put_6 ?_
    refine lv_icmp_gt hx hb d_Ob_put_7 (tgt := 22) rfl (fun hc => ?_) (fun hc => ?_)
    · replace hF := hF.1 hc
      refine lv_iconst hx hb d_Ob_put_22 ki_0 ?_
      exact rs_zret C hH hT hS (by decide) hF d_Ob_put_23
    · replace hF := hF.2 hc
      refine lv_aload_n hx hb d_Ob_put_10 rfl (lv_at hl 0 rfl) ?_
      refine rs_getI C hH h_v0 fk_5_2 tw_219 d_Ob_put_11 ?_
      refine lv_iload_n hx hb d_Ob_put_14 rfl (lv_at hl 2 rfl) ?_
      refine lv_iadd hx hb d_Ob_put_15 ?_
      refine lv_sipush hx hb d_Ob_put_16 ks_200 ?_
      refine lv_icmp_le hx hb d_Ob_put_19 (tgt := 24) rfl (fun hc => ?_) (fun hc => ?_)
      · replace hF := hF.1 hc
        refine lv_iconst hx hb d_Ob_put_24 ki_0 ?_
        refine lv_istore_n hx hb d_Ob_put_25 rfl hl (by decide) (lv' := [(3, .int (0 : Int32)), (0, .ref (Bm + v0)), (1, .ref (Bm + v1)), (2, .int x2)]) rfl (fun ls hl => ?_)
        obtain ⟨n, hF⟩ := hF
        exact JL_Ob_put_26 C n v0 v1 x2 (0 : Int32) σ _ _ _ h_v0 h_v1 hH hT hS (lv_sub hl [1, 2, 3, 0] rfl) hF
      · replace hF := hF.2 hc
        refine lv_iconst hx hb d_Ob_put_22 ki_0 ?_
        exact rs_zret C hH hT hS (by decide) hF d_Ob_put_23
