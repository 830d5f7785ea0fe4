/-! RouteSpeaker$Update.hasOnlyPrefixes()Z -/
theorem d_Up_hasOnlyPrefixes_0 : decode prog_10_method_13_code 0 = .ok (.iconst 1, 1) := by decide +kernel
theorem d_Up_hasOnlyPrefixes_1 : decode prog_10_method_13_code 1 = .ok (.istore_n 1, 1) := by decide +kernel
theorem d_Up_hasOnlyPrefixes_2 : decode prog_10_method_13_code 2 = .ok (.iconst 0, 1) := by decide +kernel
theorem d_Up_hasOnlyPrefixes_3 : decode prog_10_method_13_code 3 = .ok (.istore_n 2, 1) := by decide +kernel
theorem d_Up_hasOnlyPrefixes_4 : decode prog_10_method_13_code 4 = .ok (.iload_n 2, 1) := by decide +kernel
theorem d_Up_hasOnlyPrefixes_5 : decode prog_10_method_13_code 5 = .ok (.aload_n 0, 1) := by decide +kernel
theorem d_Up_hasOnlyPrefixes_6 : decode prog_10_method_13_code 6 = .ok (.getfield 78, 3) := by decide +kernel
theorem d_Up_hasOnlyPrefixes_9 : decode prog_10_method_13_code 9 = .ok (.if_icmp .ge (45), 3) := by decide +kernel
theorem d_Up_hasOnlyPrefixes_12 : decode prog_10_method_13_code 12 = .ok (.aload_n 0, 1) := by decide +kernel
theorem d_Up_hasOnlyPrefixes_13 : decode prog_10_method_13_code 13 = .ok (.iload_n 2, 1) := by decide +kernel
theorem d_Up_hasOnlyPrefixes_14 : decode prog_10_method_13_code 14 = .ok (.invokevirtual 127, 3) := by decide +kernel
theorem d_Up_hasOnlyPrefixes_17 : decode prog_10_method_13_code 17 = .ok (.istore_n 3, 1) := by decide +kernel
theorem d_Up_hasOnlyPrefixes_18 : decode prog_10_method_13_code 18 = .ok (.iload_n 1, 1) := by decide +kernel
theorem d_Up_hasOnlyPrefixes_19 : decode prog_10_method_13_code 19 = .ok (.ifCond .eq (27), 3) := by decide +kernel
theorem d_Up_hasOnlyPrefixes_22 : decode prog_10_method_13_code 22 = .ok (.aload_n 0, 1) := by decide +kernel
theorem d_Up_hasOnlyPrefixes_23 : decode prog_10_method_13_code 23 = .ok (.getfield 22, 3) := by decide +kernel
theorem d_Up_hasOnlyPrefixes_26 : decode prog_10_method_13_code 26 = .ok (.iload_n 3, 1) := by decide +kernel
theorem d_Up_hasOnlyPrefixes_27 : decode prog_10_method_13_code 27 = .ok (.iaload, 1) := by decide +kernel
theorem d_Up_hasOnlyPrefixes_28 : decode prog_10_method_13_code 28 = .ok (.aload_n 0, 1) := by decide +kernel
theorem d_Up_hasOnlyPrefixes_29 : decode prog_10_method_13_code 29 = .ok (.getfield 22, 3) := by decide +kernel
theorem d_Up_hasOnlyPrefixes_32 : decode prog_10_method_13_code 32 = .ok (.iload_n 3, 1) := by decide +kernel
theorem d_Up_hasOnlyPrefixes_33 : decode prog_10_method_13_code 33 = .ok (.iconst 1, 1) := by decide +kernel
theorem d_Up_hasOnlyPrefixes_34 : decode prog_10_method_13_code 34 = .ok (.iadd, 1) := by decide +kernel
theorem d_Up_hasOnlyPrefixes_35 : decode prog_10_method_13_code 35 = .ok (.iaload, 1) := by decide +kernel
theorem d_Up_hasOnlyPrefixes_36 : decode prog_10_method_13_code 36 = .ok (.invokestatic 130, 3) := by decide +kernel
theorem d_Up_hasOnlyPrefixes_39 : decode prog_10_method_13_code 39 = .ok (.ifCond .eq (7), 3) := by decide +kernel
theorem d_Up_hasOnlyPrefixes_42 : decode prog_10_method_13_code 42 = .ok (.iconst 1, 1) := by decide +kernel
theorem d_Up_hasOnlyPrefixes_43 : decode prog_10_method_13_code 43 = .ok (.goto (4), 3) := by decide +kernel
theorem d_Up_hasOnlyPrefixes_46 : decode prog_10_method_13_code 46 = .ok (.iconst 0, 1) := by decide +kernel
theorem d_Up_hasOnlyPrefixes_47 : decode prog_10_method_13_code 47 = .ok (.istore_n 1, 1) := by decide +kernel
theorem d_Up_hasOnlyPrefixes_48 : decode prog_10_method_13_code 48 = .ok (.iinc 2 (1), 3) := by decide +kernel
theorem d_Up_hasOnlyPrefixes_51 : decode prog_10_method_13_code 51 = .ok (.goto (-47), 3) := by decide +kernel
theorem d_Up_hasOnlyPrefixes_54 : decode prog_10_method_13_code 54 = .ok (.iconst 0, 1) := by decide +kernel
theorem d_Up_hasOnlyPrefixes_55 : decode prog_10_method_13_code 55 = .ok (.istore_n 2, 1) := by decide +kernel
theorem d_Up_hasOnlyPrefixes_56 : decode prog_10_method_13_code 56 = .ok (.iload_n 2, 1) := by decide +kernel
theorem d_Up_hasOnlyPrefixes_57 : decode prog_10_method_13_code 57 = .ok (.aload_n 0, 1) := by decide +kernel
theorem d_Up_hasOnlyPrefixes_58 : decode prog_10_method_13_code 58 = .ok (.getfield 47, 3) := by decide +kernel
theorem d_Up_hasOnlyPrefixes_61 : decode prog_10_method_13_code 61 = .ok (.if_icmp .ge (45), 3) := by decide +kernel
theorem d_Up_hasOnlyPrefixes_64 : decode prog_10_method_13_code 64 = .ok (.aload_n 0, 1) := by decide +kernel
theorem d_Up_hasOnlyPrefixes_65 : decode prog_10_method_13_code 65 = .ok (.iload_n 2, 1) := by decide +kernel
theorem d_Up_hasOnlyPrefixes_66 : decode prog_10_method_13_code 66 = .ok (.invokevirtual 65, 3) := by decide +kernel
theorem d_Up_hasOnlyPrefixes_69 : decode prog_10_method_13_code 69 = .ok (.istore_n 3, 1) := by decide +kernel
theorem d_Up_hasOnlyPrefixes_70 : decode prog_10_method_13_code 70 = .ok (.iload_n 1, 1) := by decide +kernel
theorem d_Up_hasOnlyPrefixes_71 : decode prog_10_method_13_code 71 = .ok (.ifCond .eq (27), 3) := by decide +kernel
theorem d_Up_hasOnlyPrefixes_74 : decode prog_10_method_13_code 74 = .ok (.aload_n 0, 1) := by decide +kernel
theorem d_Up_hasOnlyPrefixes_75 : decode prog_10_method_13_code 75 = .ok (.getfield 22, 3) := by decide +kernel
theorem d_Up_hasOnlyPrefixes_78 : decode prog_10_method_13_code 78 = .ok (.iload_n 3, 1) := by decide +kernel
theorem d_Up_hasOnlyPrefixes_79 : decode prog_10_method_13_code 79 = .ok (.iaload, 1) := by decide +kernel
theorem d_Up_hasOnlyPrefixes_80 : decode prog_10_method_13_code 80 = .ok (.aload_n 0, 1) := by decide +kernel
theorem d_Up_hasOnlyPrefixes_81 : decode prog_10_method_13_code 81 = .ok (.getfield 22, 3) := by decide +kernel
theorem d_Up_hasOnlyPrefixes_84 : decode prog_10_method_13_code 84 = .ok (.iload_n 3, 1) := by decide +kernel
theorem d_Up_hasOnlyPrefixes_85 : decode prog_10_method_13_code 85 = .ok (.iconst 1, 1) := by decide +kernel
theorem d_Up_hasOnlyPrefixes_86 : decode prog_10_method_13_code 86 = .ok (.iadd, 1) := by decide +kernel
theorem d_Up_hasOnlyPrefixes_87 : decode prog_10_method_13_code 87 = .ok (.iaload, 1) := by decide +kernel
theorem d_Up_hasOnlyPrefixes_88 : decode prog_10_method_13_code 88 = .ok (.invokestatic 130, 3) := by decide +kernel
theorem d_Up_hasOnlyPrefixes_91 : decode prog_10_method_13_code 91 = .ok (.ifCond .eq (7), 3) := by decide +kernel
theorem d_Up_hasOnlyPrefixes_94 : decode prog_10_method_13_code 94 = .ok (.iconst 1, 1) := by decide +kernel
theorem d_Up_hasOnlyPrefixes_95 : decode prog_10_method_13_code 95 = .ok (.goto (4), 3) := by decide +kernel
theorem d_Up_hasOnlyPrefixes_98 : decode prog_10_method_13_code 98 = .ok (.iconst 0, 1) := by decide +kernel
theorem d_Up_hasOnlyPrefixes_99 : decode prog_10_method_13_code 99 = .ok (.istore_n 1, 1) := by decide +kernel
theorem d_Up_hasOnlyPrefixes_100 : decode prog_10_method_13_code 100 = .ok (.iinc 2 (1), 3) := by decide +kernel
theorem d_Up_hasOnlyPrefixes_103 : decode prog_10_method_13_code 103 = .ok (.goto (-47), 3) := by decide +kernel
theorem d_Up_hasOnlyPrefixes_106 : decode prog_10_method_13_code 106 = .ok (.iload_n 1, 1) := by decide +kernel
theorem d_Up_hasOnlyPrefixes_107 : decode prog_10_method_13_code 107 = .ok (.ireturn, 1) := by decide +kernel
def B_Up_hasOnlyPrefixes_98 (N : Nat → Nat) (K56 : Nat → Int32 → Int32 → rs_Mem → Prop) (Q : Int32 → rs_Mem → Prop) (v0 : Nat) (x2 : Int32) (σ : rs_Mem) : Prop :=
  (∀ x51 : Int32, x51 = x2 + (1 : Int32) → (K56 v0 (0 : Int32) x51 σ))
def G_Up_hasOnlyPrefixes_56 (N : Nat → Nat) (Q : Int32 → rs_Mem → Prop) (K56 : Nat → Int32 → Int32 → rs_Mem → Prop) (v0 : Nat) (x1 : Int32) (x2 : Int32) (σ : rs_Mem) : Prop :=
  (((rs_I σ v0 5) ≤ x2 → ((x1 &&& 1 = x1) ∧ Q x1 σ)) ∧ (¬ ((rs_I σ v0 5) ≤ x2) → (F_Up_announcedAt N v0 x2 σ (fun x52 σ51 => ((x1 = 0 → (B_Up_hasOnlyPrefixes_98 N K56 Q v0 x2 σ51)) ∧ (¬ (x1 = 0) → (vp_in x52 (N (rs_R σ51 v0 2)) ∧ (vp_in (x52 + (1 : Int32)) (N (rs_R σ51 v0 2)) ∧ (F_Sp_isPrefix N (rs_I σ51 (rs_R σ51 v0 2) x52.toNatClampNeg) (rs_I σ51 (rs_R σ51 v0 2) (x52 + (1 : Int32)).toNatClampNeg) σ51 (fun x58 σ57 => ((x58 = 0 → (B_Up_hasOnlyPrefixes_98 N K56 Q v0 x2 σ57)) ∧ (¬ (x58 = 0) → (∀ x59 : Int32, x59 = x2 + (1 : Int32) → (K56 v0 (1 : Int32) x59 σ57))))))))))))))
noncomputable def L_Up_hasOnlyPrefixes_56 (N : Nat → Nat) (Q : Int32 → rs_Mem → Prop) (n : Nat) : Nat → Int32 → Int32 → rs_Mem → Prop := Nat.rec (motive := fun _ => Nat → Int32 → Int32 → rs_Mem → Prop) (fun _ _ _ _ => False) (fun _ K => G_Up_hasOnlyPrefixes_56 N Q K) n
def B_Up_hasOnlyPrefixes_46 (N : Nat → Nat) (K4 : Nat → Int32 → Int32 → rs_Mem → Prop) (Q : Int32 → rs_Mem → Prop) (v0 : Nat) (x2 : Int32) (σ : rs_Mem) : Prop :=
  (∀ x51 : Int32, x51 = x2 + (1 : Int32) → (K4 v0 (0 : Int32) x51 σ))
def G_Up_hasOnlyPrefixes_4 (N : Nat → Nat) (Q : Int32 → rs_Mem → Prop) (K4 : Nat → Int32 → Int32 → rs_Mem → Prop) (v0 : Nat) (x1 : Int32) (x2 : Int32) (σ : rs_Mem) : Prop :=
  (((rs_I σ v0 4) ≤ x2 → (∃ n : Nat, L_Up_hasOnlyPrefixes_56 N Q n v0 x1 (0 : Int32) σ)) ∧ (¬ ((rs_I σ v0 4) ≤ x2) → (F_Up_withdrawnAt N v0 x2 σ (fun x52 σ51 => ((x1 = 0 → (B_Up_hasOnlyPrefixes_46 N K4 Q v0 x2 σ51)) ∧ (¬ (x1 = 0) → (vp_in x52 (N (rs_R σ51 v0 2)) ∧ (vp_in (x52 + (1 : Int32)) (N (rs_R σ51 v0 2)) ∧ (F_Sp_isPrefix N (rs_I σ51 (rs_R σ51 v0 2) x52.toNatClampNeg) (rs_I σ51 (rs_R σ51 v0 2) (x52 + (1 : Int32)).toNatClampNeg) σ51 (fun x58 σ57 => ((x58 = 0 → (B_Up_hasOnlyPrefixes_46 N K4 Q v0 x2 σ57)) ∧ (¬ (x58 = 0) → (∀ x59 : Int32, x59 = x2 + (1 : Int32) → (K4 v0 (1 : Int32) x59 σ57))))))))))))))
noncomputable def L_Up_hasOnlyPrefixes_4 (N : Nat → Nat) (Q : Int32 → rs_Mem → Prop) (n : Nat) : Nat → Int32 → Int32 → rs_Mem → Prop := Nat.rec (motive := fun _ => Nat → Int32 → Int32 → rs_Mem → Prop) (fun _ _ _ _ => False) (fun _ K => G_Up_hasOnlyPrefixes_4 N Q K) n
def F_Up_hasOnlyPrefixes (N : Nat → Nat) (v0 : Nat) (σ : rs_Mem) (Q : Int32 → rs_Mem → Prop) : Prop :=
  (∃ n : Nat, L_Up_hasOnlyPrefixes_4 N Q n v0 (1 : Int32) (0 : Int32) σ)
set_option maxRecDepth 20000 in
theorem JB_Up_hasOnlyPrefixes_98 {p : Program} {l : Launch} {e : Env} {s : State} {m : MethodId} {args : Array Value} {below : List Frame} {meth : Method} {c : Code} {G : rs_G} {Bm : Nat} {S : rs_Shp} {K56 : Nat → Int32 → Int32 → rs_Mem → Prop} {Q : Int32 → rs_Mem → Prop} (C : rs_C "RouteSpeaker$Update" prog_10_method_13_code 4 (some .boolean) G p s m meth c args) (hK56 : ∀ (v0 : Nat) (x1 : Int32) (x2 : Int32) (σ : rs_Mem) (H : Heap) (locs : List Loc) (ls : Array Slot), rs_Ok S 10 v0 → rs_H G Bm S σ H → rs_T S σ → va_S (rs_A Bm) s.heap H locs → lv_has ls 4 [(0, .ref (Bm + v0)), (1, .int x1), (2, .int x2)] → K56 v0 x1 x2 σ → W p l e { frames := 1, cells := 0, slots := 0, locals := 21 } s m args below meth c H locs 0 0 (MQ below (rs_Qi G Bm S Q) args s 0 0 (rs_A Bm)) (F0 m 56 ls [])) (v0 : Nat) (x2 : Int32) (σ : rs_Mem) (H : Heap) (locs : List Loc) (ls : Array Slot) (h_v0 : rs_Ok S 10 v0) (hH : rs_H G Bm S σ H) (hT : rs_T S σ) (hS : va_S (rs_A Bm) s.heap H locs) (hl : lv_has ls 4 [(0, .ref (Bm + v0)), (2, .int x2)]) (hF : B_Up_hasOnlyPrefixes_98 S.2.2 K56 Q v0 x2 σ) :
    W p l e { frames := 1, cells := 0, slots := 0, locals := 21 } s m args below meth c H locs 0 0 (MQ below (rs_Qi G Bm S Q) args s 0 0 (rs_A Bm)) (F0 m 98 ls []) := by
  have hx := C.1
  have hb := C.2.1
  unfold B_Up_hasOnlyPrefixes_98 at hF
  refine lv_iconst hx hb d_Up_hasOnlyPrefixes_98 ki_0 ?_
  refine lv_istore_n hx hb d_Up_hasOnlyPrefixes_99 rfl hl (by decide) (lv' := [(1, .int (0 : Int32)), (0, .ref (Bm + v0)), (2, .int x2)]) rfl (fun ls hl => ?_)
  obtain ⟨x51, ex51⟩ : ∃ z : Int32, z = x2 + (1 : Int32) := ⟨_, rfl⟩
  replace hF := hF x51 ex51
  refine lv_iinc hx hb d_Up_hasOnlyPrefixes_100 hl (k := 2) rfl (v := x51) (by rw [ki_1, ex51]) (by decide) (lv' := [(2, .int x51), (1, .int (0 : Int32)), (0, .ref (Bm + v0))]) rfl (fun ls hl => ?_)
  refine lv_goto hx hb d_Up_hasOnlyPrefixes_103 (tgt := 56) rfl ?_
  exact hK56 v0 (0 : Int32) x51 σ _ _ _ h_v0 hH hT hS (lv_sub hl [2, 1, 0] rfl) hF
set_option maxRecDepth 20000 in
theorem JL_Up_hasOnlyPrefixes_56 {p : Program} {l : Launch} {e : Env} {s : State} {m : MethodId} {args : Array Value} {below : List Frame} {meth : Method} {c : Code} {G : rs_G} {Bm : Nat} {S : rs_Shp} {Q : Int32 → rs_Mem → Prop} (C : rs_C "RouteSpeaker$Update" prog_10_method_13_code 4 (some .boolean) G p s m meth c args) : ∀ n : Nat, ∀ (v0 : Nat) (x1 : Int32) (x2 : Int32) (σ : rs_Mem) (H : Heap) (locs : List Loc) (ls : Array Slot), rs_Ok S 10 v0 → rs_H G Bm S σ H → rs_T S σ → va_S (rs_A Bm) s.heap H locs → lv_has ls 4 [(0, .ref (Bm + v0)), (1, .int x1), (2, .int x2)] → (L_Up_hasOnlyPrefixes_56 S.2.2 Q n) v0 x1 x2 σ → W p l e { frames := 1, cells := 0, slots := 0, locals := 21 } s m args below meth c H locs 0 0 (MQ below (rs_Qi G Bm S Q) args s 0 0 (rs_A Bm)) (F0 m 56 ls []) := by
  have hx := C.1
  have hb := C.2.1
  intro n
  induction n with
  | zero => intros; rename_i hF; exact hF.elim
  | succ n hK56 =>
    intro v0 x1 x2 σ H locs ls h_v0 hH hT hS hl hF
    replace hF : G_Up_hasOnlyPrefixes_56 S.2.2 Q (L_Up_hasOnlyPrefixes_56 S.2.2 Q n) v0 x1 x2 σ := hF
    unfold G_Up_hasOnlyPrefixes_56 at hF
    refine lv_iload_n hx hb d_Up_hasOnlyPrefixes_56 rfl (lv_at hl 2 rfl) ?_
    refine lv_aload_n hx hb d_Up_hasOnlyPrefixes_57 rfl (lv_at hl 0 rfl) ?_
    refine rs_getI C hH h_v0 fk_10_5 tw_127 d_Up_hasOnlyPrefixes_58 ?_
    refine lv_icmp_ge hx hb d_Up_hasOnlyPrefixes_61 (tgt := 106) rfl (fun hc => ?_) (fun hc => ?_)
    · replace hF := hF.1 hc
      refine lv_iload_n hx hb d_Up_hasOnlyPrefixes_106 rfl (lv_at hl 1 rfl) ?_
      exact rs_zret C hH hT hS hF.1 hF.2 d_Up_hasOnlyPrefixes_107
    · replace hF := hF.2 hc
      refine lv_aload_n hx hb d_Up_hasOnlyPrefixes_64 rfl (lv_at hl 0 rfl) ?_
      refine lv_iload_n hx hb d_Up_hasOnlyPrefixes_65 rfl (lv_at hl 2 rfl) ?_
      refine rs_ci (rs_runV C hH hT hl (J_Up_announcedAt l h_v0 hF) rc_Up_announcedAt tw_774 tw_775 tw_776 h_v0 ⟨rfl, by decide, by decide⟩ rfl ⟨⟨rfl, rfl⟩, by decide, by decide, by decide⟩ (Nat.le_of_ble_eq_true rfl) rfl d_Up_hasOnlyPrefixes_66) hS (fun x52 σ51 H locs hH hT hS hF => ?_)
      refine lv_istore_n hx hb d_Up_hasOnlyPrefixes_69 rfl hl (by decide) (lv' := [(3, .int x52), (0, .ref (Bm + v0)), (1, .int x1), (2, .int x2)]) rfl (fun ls hl => ?_)
      refine lv_iload_n hx hb d_Up_hasOnlyPrefixes_70 rfl (lv_at hl 2 rfl) ?_
      refine lv_if_eq hx hb d_Up_hasOnlyPrefixes_71 (tgt := 98) rfl (fun hc => ?_) (fun hc => ?_)
      · replace hF := hF.1 hc
        exact JB_Up_hasOnlyPrefixes_98 C hK56 v0 x2 σ51 _ _ _ h_v0 hH hT hS (lv_sub hl [1, 3] rfl) hF
      · replace hF := hF.2 hc
        refine lv_aload_n hx hb d_Up_hasOnlyPrefixes_74 rfl (lv_at hl 1 rfl) ?_
        refine rs_getR C hH hT h_v0 fk_10_2 tw_123 d_Up_hasOnlyPrefixes_75 (fun h53 => ?_)
        refine lv_iload_n hx hb d_Up_hasOnlyPrefixes_78 rfl (lv_at hl 0 rfl) ?_
        obtain ⟨g54, hF⟩ := hF
        refine rs_iald C hH h53 g54 d_Up_hasOnlyPrefixes_79 ?_
        refine lv_aload_n hx hb d_Up_hasOnlyPrefixes_80 rfl (lv_at hl 1 rfl) ?_
        refine rs_getR C hH hT h_v0 fk_10_2 tw_123 d_Up_hasOnlyPrefixes_81 (fun h55 => ?_)
        refine lv_iload_n hx hb d_Up_hasOnlyPrefixes_84 rfl (lv_at hl 0 rfl) ?_
        refine lv_iconst hx hb d_Up_hasOnlyPrefixes_85 ki_1 ?_
        refine lv_iadd hx hb d_Up_hasOnlyPrefixes_86 ?_
        obtain ⟨g56, hF⟩ := hF
        refine rs_iald C hH h55 g56 d_Up_hasOnlyPrefixes_87 ?_
        refine rs_ci (rs_runSN C hH hT hl (J_Sp_isPrefix l hF) rc_Sp_isPrefix (host := "RouteSpeaker") nw_4 tw_626 rfl ⟨⟨rfl, rfl⟩, by decide, by decide, by decide⟩ (Nat.le_of_ble_eq_true rfl) rfl d_Up_hasOnlyPrefixes_88) hS (fun x58 σ57 H locs hH hT hS hF => ?_)
        refine lv_if_eq hx hb d_Up_hasOnlyPrefixes_91 (tgt := 98) rfl (fun hc => ?_) (fun hc => ?_)
        · replace hF := hF.1 hc
          exact JB_Up_hasOnlyPrefixes_98 C hK56 v0 x2 σ57 _ _ _ h_v0 hH hT hS (lv_sub hl [1, 3] rfl) hF
        · replace hF := hF.2 hc
          refine lv_iconst hx hb d_Up_hasOnlyPrefixes_94 ki_1 ?_
          refine lv_goto hx hb d_Up_hasOnlyPrefixes_95 (tgt := 99) rfl ?_
          refine lv_istore_n hx hb d_Up_hasOnlyPrefixes_99 rfl hl (by decide) (lv' := [(1, .int (1 : Int32)), (3, .int x52), (0, .ref (Bm + v0)), (2, .int x2)]) rfl (fun ls hl => ?_)
          obtain ⟨x59, ex59⟩ : ∃ z : Int32, z = x2 + (1 : Int32) := ⟨_, rfl⟩
          replace hF := hF x59 ex59
          refine lv_iinc hx hb d_Up_hasOnlyPrefixes_100 hl (k := 3) rfl (v := x59) (by rw [ki_1, ex59]) (by decide) (lv' := [(2, .int x59), (1, .int (1 : Int32)), (3, .int x52), (0, .ref (Bm + v0))]) rfl (fun ls hl => ?_)
          refine lv_goto hx hb d_Up_hasOnlyPrefixes_103 (tgt := 56) rfl ?_
          exact hK56 v0 (1 : Int32) x59 σ57 _ _ _ h_v0 hH hT hS (lv_sub hl [3, 1, 0] rfl) hF
set_option maxRecDepth 20000 in
theorem JB_Up_hasOnlyPrefixes_46 {p : Program} {l : Launch} {e : Env} {s : State} {m : MethodId} {args : Array Value} {below : List Frame} {meth : Method} {c : Code} {G : rs_G} {Bm : Nat} {S : rs_Shp} {K4 : Nat → Int32 → Int32 → rs_Mem → Prop} {Q : Int32 → rs_Mem → Prop} (C : rs_C "RouteSpeaker$Update" prog_10_method_13_code 4 (some .boolean) G p s m meth c args) (hK4 : ∀ (v0 : Nat) (x1 : Int32) (x2 : Int32) (σ : rs_Mem) (H : Heap) (locs : List Loc) (ls : Array Slot), rs_Ok S 10 v0 → rs_H G Bm S σ H → rs_T S σ → va_S (rs_A Bm) s.heap H locs → lv_has ls 4 [(0, .ref (Bm + v0)), (1, .int x1), (2, .int x2)] → K4 v0 x1 x2 σ → W p l e { frames := 1, cells := 0, slots := 0, locals := 21 } s m args below meth c H locs 0 0 (MQ below (rs_Qi G Bm S Q) args s 0 0 (rs_A Bm)) (F0 m 4 ls [])) (v0 : Nat) (x2 : Int32) (σ : rs_Mem) (H : Heap) (locs : List Loc) (ls : Array Slot) (h_v0 : rs_Ok S 10 v0) (hH : rs_H G Bm S σ H) (hT : rs_T S σ) (hS : va_S (rs_A Bm) s.heap H locs) (hl : lv_has ls 4 [(0, .ref (Bm + v0)), (2, .int x2)]) (hF : B_Up_hasOnlyPrefixes_46 S.2.2 K4 Q v0 x2 σ) :
    W p l e { frames := 1, cells := 0, slots := 0, locals := 21 } s m args below meth c H locs 0 0 (MQ below (rs_Qi G Bm S Q) args s 0 0 (rs_A Bm)) (F0 m 46 ls []) := by
  have hx := C.1
  have hb := C.2.1
  unfold B_Up_hasOnlyPrefixes_46 at hF
  refine lv_iconst hx hb d_Up_hasOnlyPrefixes_46 ki_0 ?_
  refine lv_istore_n hx hb d_Up_hasOnlyPrefixes_47 rfl hl (by decide) (lv' := [(1, .int (0 : Int32)), (0, .ref (Bm + v0)), (2, .int x2)]) rfl (fun ls hl => ?_)
  obtain ⟨x51, ex51⟩ : ∃ z : Int32, z = x2 + (1 : Int32) := ⟨_, rfl⟩
  replace hF := hF x51 ex51
  refine lv_iinc hx hb d_Up_hasOnlyPrefixes_48 hl (k := 2) rfl (v := x51) (by rw [ki_1, ex51]) (by decide) (lv' := [(2, .int x51), (1, .int (0 : Int32)), (0, .ref (Bm + v0))]) rfl (fun ls hl => ?_)
  refine lv_goto hx hb d_Up_hasOnlyPrefixes_51 (tgt := 4) rfl ?_
  exact hK4 v0 (0 : Int32) x51 σ _ _ _ h_v0 hH hT hS (lv_sub hl [2, 1, 0] rfl) hF
set_option maxRecDepth 20000 in
theorem JL_Up_hasOnlyPrefixes_4 {p : Program} {l : Launch} {e : Env} {s : State} {m : MethodId} {args : Array Value} {below : List Frame} {meth : Method} {c : Code} {G : rs_G} {Bm : Nat} {S : rs_Shp} {Q : Int32 → rs_Mem → Prop} (C : rs_C "RouteSpeaker$Update" prog_10_method_13_code 4 (some .boolean) G p s m meth c args) : ∀ n : Nat, ∀ (v0 : Nat) (x1 : Int32) (x2 : Int32) (σ : rs_Mem) (H : Heap) (locs : List Loc) (ls : Array Slot), rs_Ok S 10 v0 → rs_H G Bm S σ H → rs_T S σ → va_S (rs_A Bm) s.heap H locs → lv_has ls 4 [(0, .ref (Bm + v0)), (1, .int x1), (2, .int x2)] → (L_Up_hasOnlyPrefixes_4 S.2.2 Q n) v0 x1 x2 σ → W p l e { frames := 1, cells := 0, slots := 0, locals := 21 } s m args below meth c H locs 0 0 (MQ below (rs_Qi G Bm S Q) args s 0 0 (rs_A Bm)) (F0 m 4 ls []) := by
  have hx := C.1
  have hb := C.2.1
  intro n
  induction n with
  | zero => intros; rename_i hF; exact hF.elim
  | succ n hK4 =>
    intro v0 x1 x2 σ H locs ls h_v0 hH hT hS hl hF
    replace hF : G_Up_hasOnlyPrefixes_4 S.2.2 Q (L_Up_hasOnlyPrefixes_4 S.2.2 Q n) v0 x1 x2 σ := hF
    unfold G_Up_hasOnlyPrefixes_4 at hF
    refine lv_iload_n hx hb d_Up_hasOnlyPrefixes_4 rfl (lv_at hl 2 rfl) ?_
    refine lv_aload_n hx hb d_Up_hasOnlyPrefixes_5 rfl (lv_at hl 0 rfl) ?_
    refine rs_getI C hH h_v0 fk_10_4 tw_125 d_Up_hasOnlyPrefixes_6 ?_
    refine lv_icmp_ge hx hb d_Up_hasOnlyPrefixes_9 (tgt := 54) rfl (fun hc => ?_) (fun hc => ?_)
    · replace hF := hF.1 hc
      refine lv_iconst hx hb d_Up_hasOnlyPrefixes_54 ki_0 ?_
      refine lv_istore_n hx hb d_Up_hasOnlyPrefixes_55 rfl hl (by decide) (lv' := [(2, .int (0 : Int32)), (0, .ref (Bm + v0)), (1, .int x1)]) rfl (fun ls hl => ?_)
      obtain ⟨n, hF⟩ := hF
      exact JL_Up_hasOnlyPrefixes_56 C n v0 x1 (0 : Int32) σ _ _ _ h_v0 hH hT hS (lv_sub hl [1, 2, 0] rfl) hF
    · replace hF := hF.2 hc
      refine lv_aload_n hx hb d_Up_hasOnlyPrefixes_12 rfl (lv_at hl 0 rfl) ?_
      refine lv_iload_n hx hb d_Up_hasOnlyPrefixes_13 rfl (lv_at hl 2 rfl) ?_
      refine rs_ci (rs_runV C hH hT hl (J_Up_withdrawnAt l h_v0 hF) rc_Up_withdrawnAt tw_769 tw_770 tw_771 h_v0 ⟨rfl, by decide, by decide⟩ rfl ⟨⟨rfl, rfl⟩, by decide, by decide, by decide⟩ (Nat.le_of_ble_eq_true rfl) rfl d_Up_hasOnlyPrefixes_14) hS (fun x52 σ51 H locs hH hT hS hF => ?_)
      refine lv_istore_n hx hb d_Up_hasOnlyPrefixes_17 rfl hl (by decide) (lv' := [(3, .int x52), (0, .ref (Bm + v0)), (1, .int x1), (2, .int x2)]) rfl (fun ls hl => ?_)
      refine lv_iload_n hx hb d_Up_hasOnlyPrefixes_18 rfl (lv_at hl 2 rfl) ?_
      refine lv_if_eq hx hb d_Up_hasOnlyPrefixes_19 (tgt := 46) rfl (fun hc => ?_) (fun hc => ?_)
      · replace hF := hF.1 hc
        exact JB_Up_hasOnlyPrefixes_46 C hK4 v0 x2 σ51 _ _ _ h_v0 hH hT hS (lv_sub hl [1, 3] rfl) hF
      · replace hF := hF.2 hc
        refine lv_aload_n hx hb d_Up_hasOnlyPrefixes_22 rfl (lv_at hl 1 rfl) ?_
        refine rs_getR C hH hT h_v0 fk_10_2 tw_123 d_Up_hasOnlyPrefixes_23 (fun h53 => ?_)
        refine lv_iload_n hx hb d_Up_hasOnlyPrefixes_26 rfl (lv_at hl 0 rfl) ?_
        obtain ⟨g54, hF⟩ := hF
        refine rs_iald C hH h53 g54 d_Up_hasOnlyPrefixes_27 ?_
        refine lv_aload_n hx hb d_Up_hasOnlyPrefixes_28 rfl (lv_at hl 1 rfl) ?_
        refine rs_getR C hH hT h_v0 fk_10_2 tw_123 d_Up_hasOnlyPrefixes_29 (fun h55 => ?_)
        refine lv_iload_n hx hb d_Up_hasOnlyPrefixes_32 rfl (lv_at hl 0 rfl) ?_
        refine lv_iconst hx hb d_Up_hasOnlyPrefixes_33 ki_1 ?_
        refine lv_iadd hx hb d_Up_hasOnlyPrefixes_34 ?_
        obtain ⟨g56, hF⟩ := hF
        refine rs_iald C hH h55 g56 d_Up_hasOnlyPrefixes_35 ?_
        refine rs_ci (rs_runSN C hH hT hl (J_Sp_isPrefix l hF) rc_Sp_isPrefix (host := "RouteSpeaker") nw_4 tw_626 rfl ⟨⟨rfl, rfl⟩, by decide, by decide, by decide⟩ (Nat.le_of_ble_eq_true rfl) rfl d_Up_hasOnlyPrefixes_36) hS (fun x58 σ57 H locs hH hT hS hF => ?_)
        refine lv_if_eq hx hb d_Up_hasOnlyPrefixes_39 (tgt := 46) rfl (fun hc => ?_) (fun hc => ?_)
        · replace hF := hF.1 hc
          exact JB_Up_hasOnlyPrefixes_46 C hK4 v0 x2 σ57 _ _ _ h_v0 hH hT hS (lv_sub hl [1, 3] rfl) hF
        · replace hF := hF.2 hc
          refine lv_iconst hx hb d_Up_hasOnlyPrefixes_42 ki_1 ?_
          refine lv_goto hx hb d_Up_hasOnlyPrefixes_43 (tgt := 47) rfl ?_
          refine lv_istore_n hx hb d_Up_hasOnlyPrefixes_47 rfl hl (by decide) (lv' := [(1, .int (1 : Int32)), (3, .int x52), (0, .ref (Bm + v0)), (2, .int x2)]) rfl (fun ls hl => ?_)
          obtain ⟨x59, ex59⟩ : ∃ z : Int32, z = x2 + (1 : Int32) := ⟨_, rfl⟩
          replace hF := hF x59 ex59
          refine lv_iinc hx hb d_Up_hasOnlyPrefixes_48 hl (k := 3) rfl (v := x59) (by rw [ki_1, ex59]) (by decide) (lv' := [(2, .int x59), (1, .int (1 : Int32)), (3, .int x52), (0, .ref (Bm + v0))]) rfl (fun ls hl => ?_)
          refine lv_goto hx hb d_Up_hasOnlyPrefixes_51 (tgt := 4) rfl ?_
          exact hK4 v0 (1 : Int32) x59 σ57 _ _ _ h_v0 hH hT hS (lv_sub hl [3, 1, 0] rfl) hF
abbrev y_Up_hasOnlyPrefixes : MethodName := ({ cls := "RouteSpeaker$Update", name := "hasOnlyPrefixes", desc := "()Z" } : Jvm.MethodName)
theorem rc_Up_hasOnlyPrefixes : rs_Cal y_Up_hasOnlyPrefixes prog_10_method_13_code 4 (some .boolean) 0 := ⟨tw_768, tw_4, by decide, by decide, by decide +kernel⟩
set_option maxRecDepth 20000 in
theorem J_Up_hasOnlyPrefixes (l : Launch) {G : rs_G} {Bm : Nat} {S : rs_Shp} {v0 : Nat} {σ : rs_Mem} {Q : Int32 → rs_Mem → Prop} (h_v0 : rs_Ok S 10 v0) (hF : F_Up_hasOnlyPrefixes S.2.2 v0 σ Q) :
    Met l y_Up_hasOnlyPrefixes (rs_ws y_Up_hasOnlyPrefixes prog_10_method_13_code 4 (some .boolean)) { frames := 1, cells := 0, slots := 0, locals := 21 } (rs_P G Bm S σ [.ref (Bm + v0)]) (rs_Qi G Bm S Q) 0 0 (rs_A Bm) := by
  refine rs_met (own := "RouteSpeaker$Update") (by decide) rfl (Nat.le_of_ble_eq_true rfl) (fun p e s m below meth c ls C hl hH hT hS => ?_)
  replace hl : lv_has ls 4 [(0, .ref (Bm + v0))] := hl
  have hx := C.1
  have hb := C.2.1
  unfold F_Up_hasOnlyPrefixes at hF
  refine lv_iconst hx hb d_Up_hasOnlyPrefixes_0 ki_1 ?_
  refine lv_istore_n hx hb d_Up_hasOnlyPrefixes_1 rfl hl (by decide) (lv' := [(1, .int (1 : Int32)), (0, .ref (Bm + v0))]) rfl (fun ls hl => ?_)
  refine lv_iconst hx hb d_Up_hasOnlyPrefixes_2 ki_0 ?_
  refine lv_istore_n hx hb d_Up_hasOnlyPrefixes_3 rfl hl (by decide) (lv' := [(2, .int (0 : Int32)), (1, .int (1 : Int32)), (0, .ref (Bm + v0))]) rfl (fun ls hl => ?_)
  obtain ⟨n, hF⟩ := hF
  exact JL_Up_hasOnlyPrefixes_4 C n v0 (1 : Int32) (0 : Int32) σ _ _ _ h_v0 hH hT hS (lv_sub hl [2, 1, 0] rfl) hF
/-! RouteSpeaker$Update.faultOf([IIZI)I -/
theorem d_Up_faultOf_0 : decode prog_10_method_2_code 0 = .ok (.aload_n 0, 1) := by decide +kernel
theorem d_Up_faultOf_1 : decode prog_10_method_2_code 1 = .ok (.aload_n 1, 1) := by decide +kernel
theorem d_Up_faultOf_2 : decode prog_10_method_2_code 2 = .ok (.putfield 22, 3) := by decide +kernel
theorem d_Up_faultOf_5 : decode prog_10_method_2_code 5 = .ok (.aload_n 0, 1) := by decide +kernel
theorem d_Up_faultOf_6 : decode prog_10_method_2_code 6 = .ok (.iload_n 2, 1) := by decide +kernel
theorem d_Up_faultOf_7 : decode prog_10_method_2_code 7 = .ok (.putfield 26, 3) := by decide +kernel
theorem d_Up_faultOf_10 : decode prog_10_method_2_code 10 = .ok (.aload_n 0, 1) := by decide +kernel
theorem d_Up_faultOf_11 : decode prog_10_method_2_code 11 = .ok (.invokevirtual 30, 3) := by decide +kernel
theorem d_Up_faultOf_14 : decode prog_10_method_2_code 14 = .ok (.aload_n 0, 1) := by decide +kernel
theorem d_Up_faultOf_15 : decode prog_10_method_2_code 15 = .ok (.invokevirtual 33, 3) := by decide +kernel
theorem d_Up_faultOf_18 : decode prog_10_method_2_code 18 = .ok (.ifCond .ne (5), 3) := by decide +kernel
theorem d_Up_faultOf_21 : decode prog_10_method_2_code 21 = .ok (.iconst 1, 1) := by decide +kernel
theorem d_Up_faultOf_22 : decode prog_10_method_2_code 22 = .ok (.ireturn, 1) := by decide +kernel
theorem d_Up_faultOf_23 : decode prog_10_method_2_code 23 = .ok (.iconst 0, 1) := by decide +kernel
theorem d_Up_faultOf_24 : decode prog_10_method_2_code 24 = .ok (.istore 5, 2) := by decide +kernel
theorem d_Up_faultOf_26 : decode prog_10_method_2_code 26 = .ok (.aload_n 0, 1) := by decide +kernel
theorem d_Up_faultOf_27 : decode prog_10_method_2_code 27 = .ok (.getfield 37, 3) := by decide +kernel
theorem d_Up_faultOf_30 : decode prog_10_method_2_code 30 = .ok (.istore 6, 2) := by decide +kernel
theorem d_Up_faultOf_32 : decode prog_10_method_2_code 32 = .ok (.iload 6, 2) := by decide +kernel
theorem d_Up_faultOf_34 : decode prog_10_method_2_code 34 = .ok (.iconst 1, 1) := by decide +kernel
theorem d_Up_faultOf_35 : decode prog_10_method_2_code 35 = .ok (.iadd, 1) := by decide +kernel
theorem d_Up_faultOf_36 : decode prog_10_method_2_code 36 = .ok (.aload_n 0, 1) := by decide +kernel
theorem d_Up_faultOf_37 : decode prog_10_method_2_code 37 = .ok (.getfield 40, 3) := by decide +kernel
theorem d_Up_faultOf_40 : decode prog_10_method_2_code 40 = .ok (.if_icmp .ge (53), 3) := by decide +kernel
theorem d_Up_faultOf_43 : decode prog_10_method_2_code 43 = .ok (.iload 5, 2) := by decide +kernel
theorem d_Up_faultOf_45 : decode prog_10_method_2_code 45 = .ok (.ifCond .ne (48), 3) := by decide +kernel
theorem d_Up_faultOf_48 : decode prog_10_method_2_code 48 = .ok (.aload_n 0, 1) := by decide +kernel
theorem d_Up_faultOf_49 : decode prog_10_method_2_code 49 = .ok (.aload_n 0, 1) := by decide +kernel
theorem d_Up_faultOf_50 : decode prog_10_method_2_code 50 = .ok (.getfield 22, 3) := by decide +kernel
theorem d_Up_faultOf_53 : decode prog_10_method_2_code 53 = .ok (.iload 6, 2) := by decide +kernel
theorem d_Up_faultOf_55 : decode prog_10_method_2_code 55 = .ok (.iaload, 1) := by decide +kernel
theorem d_Up_faultOf_56 : decode prog_10_method_2_code 56 = .ok (.aload_n 0, 1) := by decide +kernel
theorem d_Up_faultOf_57 : decode prog_10_method_2_code 57 = .ok (.getfield 22, 3) := by decide +kernel
theorem d_Up_faultOf_60 : decode prog_10_method_2_code 60 = .ok (.iload 6, 2) := by decide +kernel
theorem d_Up_faultOf_62 : decode prog_10_method_2_code 62 = .ok (.iconst 1, 1) := by decide +kernel
theorem d_Up_faultOf_63 : decode prog_10_method_2_code 63 = .ok (.iadd, 1) := by decide +kernel
theorem d_Up_faultOf_64 : decode prog_10_method_2_code 64 = .ok (.iaload, 1) := by decide +kernel
theorem d_Up_faultOf_65 : decode prog_10_method_2_code 65 = .ok (.iload 6, 2) := by decide +kernel
theorem d_Up_faultOf_67 : decode prog_10_method_2_code 67 = .ok (.iconst 2, 1) := by decide +kernel
theorem d_Up_faultOf_68 : decode prog_10_method_2_code 68 = .ok (.iadd, 1) := by decide +kernel
theorem d_Up_faultOf_69 : decode prog_10_method_2_code 69 = .ok (.invokevirtual 43, 3) := by decide +kernel
theorem d_Up_faultOf_72 : decode prog_10_method_2_code 72 = .ok (.istore 5, 2) := by decide +kernel
theorem d_Up_faultOf_74 : decode prog_10_method_2_code 74 = .ok (.iload 6, 2) := by decide +kernel
theorem d_Up_faultOf_76 : decode prog_10_method_2_code 76 = .ok (.iconst 2, 1) := by decide +kernel
theorem d_Up_faultOf_77 : decode prog_10_method_2_code 77 = .ok (.aload_n 0, 1) := by decide +kernel
theorem d_Up_faultOf_78 : decode prog_10_method_2_code 78 = .ok (.getfield 22, 3) := by decide +kernel
theorem d_Up_faultOf_81 : decode prog_10_method_2_code 81 = .ok (.iload 6, 2) := by decide +kernel
theorem d_Up_faultOf_83 : decode prog_10_method_2_code 83 = .ok (.iconst 1, 1) := by decide +kernel
theorem d_Up_faultOf_84 : decode prog_10_method_2_code 84 = .ok (.iadd, 1) := by decide +kernel
theorem d_Up_faultOf_85 : decode prog_10_method_2_code 85 = .ok (.iaload, 1) := by decide +kernel
theorem d_Up_faultOf_86 : decode prog_10_method_2_code 86 = .ok (.iadd, 1) := by decide +kernel
theorem d_Up_faultOf_87 : decode prog_10_method_2_code 87 = .ok (.iadd, 1) := by decide +kernel
theorem d_Up_faultOf_88 : decode prog_10_method_2_code 88 = .ok (.istore 6, 2) := by decide +kernel
theorem d_Up_faultOf_90 : decode prog_10_method_2_code 90 = .ok (.goto (-58), 3) := by decide +kernel
theorem d_Up_faultOf_93 : decode prog_10_method_2_code 93 = .ok (.iload 5, 2) := by decide +kernel
theorem d_Up_faultOf_95 : decode prog_10_method_2_code 95 = .ok (.ifCond .ne (19), 3) := by decide +kernel
theorem d_Up_faultOf_98 : decode prog_10_method_2_code 98 = .ok (.aload_n 0, 1) := by decide +kernel
theorem d_Up_faultOf_99 : decode prog_10_method_2_code 99 = .ok (.getfield 47, 3) := by decide +kernel
theorem d_Up_faultOf_102 : decode prog_10_method_2_code 102 = .ok (.ifCond .le (12), 3) := by decide +kernel
theorem d_Up_faultOf_105 : decode prog_10_method_2_code 105 = .ok (.aload_n 0, 1) := by decide +kernel
theorem d_Up_faultOf_106 : decode prog_10_method_2_code 106 = .ok (.iload_n 3, 1) := by decide +kernel
theorem d_Up_faultOf_107 : decode prog_10_method_2_code 107 = .ok (.iload 4, 2) := by decide +kernel
theorem d_Up_faultOf_109 : decode prog_10_method_2_code 109 = .ok (.invokevirtual 50, 3) := by decide +kernel
theorem d_Up_faultOf_112 : decode prog_10_method_2_code 112 = .ok (.istore 5, 2) := by decide +kernel
theorem d_Up_faultOf_114 : decode prog_10_method_2_code 114 = .ok (.iload 5, 2) := by decide +kernel
theorem d_Up_faultOf_116 : decode prog_10_method_2_code 116 = .ok (.ifCond .ne (14), 3) := by decide +kernel
theorem d_Up_faultOf_119 : decode prog_10_method_2_code 119 = .ok (.aload_n 0, 1) := by decide +kernel
theorem d_Up_faultOf_120 : decode prog_10_method_2_code 120 = .ok (.invokevirtual 54, 3) := by decide +kernel
theorem d_Up_faultOf_123 : decode prog_10_method_2_code 123 = .ok (.ifCond .ne (7), 3) := by decide +kernel
theorem d_Up_faultOf_126 : decode prog_10_method_2_code 126 = .ok (.bipush (10), 2) := by decide +kernel
theorem d_Up_faultOf_128 : decode prog_10_method_2_code 128 = .ok (.istore 5, 2) := by decide +kernel
theorem d_Up_faultOf_130 : decode prog_10_method_2_code 130 = .ok (.iload_n 3, 1) := by decide +kernel
theorem d_Up_faultOf_131 : decode prog_10_method_2_code 131 = .ok (.ifCond .eq (10), 3) := by decide +kernel
theorem d_Up_faultOf_134 : decode prog_10_method_2_code 134 = .ok (.aload_n 0, 1) := by decide +kernel
theorem d_Up_faultOf_135 : decode prog_10_method_2_code 135 = .ok (.getfield 12, 3) := by decide +kernel
theorem d_Up_faultOf_138 : decode prog_10_method_2_code 138 = .ok (.invokevirtual 57, 3) := by decide +kernel
theorem d_Up_faultOf_141 : decode prog_10_method_2_code 141 = .ok (.iload 5, 2) := by decide +kernel
theorem d_Up_faultOf_143 : decode prog_10_method_2_code 143 = .ok (.ireturn, 1) := by decide +kernel
def B_Up_faultOf_130 (N : Nat → Nat) (Q : Int32 → rs_Mem → Prop) (v0 : Nat) (x3 : Int32) (x5 : Int32) (σ : rs_Mem) : Prop :=
  ((x3 = 0 → (Q x5 σ)) ∧ (¬ (x3 = 0) → (F_Ro_dropInner N (rs_R σ v0 0) σ (fun σ52 => (Q x5 σ52)))))
def B_Up_faultOf_114 (N : Nat → Nat) (Q : Int32 → rs_Mem → Prop) (v0 : Nat) (x3 : Int32) (x5 : Int32) (σ : rs_Mem) : Prop :=
  ((¬ (x5 = 0) → (B_Up_faultOf_130 N Q v0 x3 x5 σ)) ∧ (x5 = 0 → (F_Up_hasOnlyPrefixes N v0 σ (fun x52 σ51 => ((¬ (x52 = 0) → (B_Up_faultOf_130 N Q v0 x3 x5 σ51)) ∧ (x52 = 0 → (B_Up_faultOf_130 N Q v0 x3 (10 : Int32) σ51)))))))
def B_Up_faultOf_93 (N : Nat → Nat) (Q : Int32 → rs_Mem → Prop) (v0 : Nat) (x3 : Int32) (x4 : Int32) (x5 : Int32) (σ : rs_Mem) : Prop :=
  ((¬ (x5 = 0) → (B_Up_faultOf_114 N Q v0 x3 x5 σ)) ∧ (x5 = 0 → (((rs_I σ v0 5) ≤ 0 → (B_Up_faultOf_114 N Q v0 x3 x5 σ)) ∧ (¬ ((rs_I σ v0 5) ≤ 0) → (F_Up_announcementFault N v0 x3 x4 σ (fun x52 σ51 => (B_Up_faultOf_114 N Q v0 x3 x52 σ51)))))))
def G_Up_faultOf_32 (N : Nat → Nat) (Q : Int32 → rs_Mem → Prop) (K32 : Nat → Int32 → Int32 → Int32 → Int32 → rs_Mem → Prop) (v0 : Nat) (x3 : Int32) (x4 : Int32) (x5 : Int32) (x6 : Int32) (σ : rs_Mem) : Prop :=
  (((rs_I σ v0 7) ≤ (x6 + (1 : Int32)) → (B_Up_faultOf_93 N Q v0 x3 x4 x5 σ)) ∧ (¬ ((rs_I σ v0 7) ≤ (x6 + (1 : Int32))) → ((¬ (x5 = 0) → (B_Up_faultOf_93 N Q v0 x3 x4 x5 σ)) ∧ (x5 = 0 → (vp_in x6 (N (rs_R σ v0 2)) ∧ (vp_in (x6 + (1 : Int32)) (N (rs_R σ v0 2)) ∧ (F_Up_attributeFault N v0 (rs_I σ (rs_R σ v0 2) x6.toNatClampNeg) (rs_I σ (rs_R σ v0 2) (x6 + (1 : Int32)).toNatClampNeg) (x6 + (2 : Int32)) σ (fun x56 σ55 => (vp_in (x6 + (1 : Int32)) (N (rs_R σ55 v0 2)) ∧ (∀ x59 : Int32, x59 = (x6 + ((2 : Int32) + (rs_I σ55 (rs_R σ55 v0 2) (x6 + (1 : Int32)).toNatClampNeg))) → (K32 v0 x3 x4 x56 x59 σ55)))))))))))
noncomputable def L_Up_faultOf_32 (N : Nat → Nat) (Q : Int32 → rs_Mem → Prop) (n : Nat) : Nat → Int32 → Int32 → Int32 → Int32 → rs_Mem → Prop := Nat.rec (motive := fun _ => Nat → Int32 → Int32 → Int32 → Int32 → rs_Mem → Prop) (fun _ _ _ _ _ _ => False) (fun _ K => G_Up_faultOf_32 N Q K) n
def F_Up_faultOf (N : Nat → Nat) (v0 : Nat) (v1 : Nat) (x2 : Int32) (x3 : Int32) (x4 : Int32) (σ : rs_Mem) (Q : Int32 → rs_Mem → Prop) : Prop :=
  (∀ σ51 : rs_Mem, σ51 = rs_sR σ v0 2 v1 → (∀ σ52 : rs_Mem, σ52 = rs_sI σ51 v0 3 x2 → (F_Up_clear N v0 σ52 (fun σ53 => (F_Up_isFramed N v0 σ53 (fun x55 σ54 => ((¬ (x55 = 0) → (∀ x56 : Int32, x56 = (rs_I σ54 v0 6) → (∃ n : Nat, L_Up_faultOf_32 N Q n v0 x3 x4 (0 : Int32) x56 σ54))) ∧ (x55 = 0 → (Q (1 : Int32) σ54)))))))))
set_option maxRecDepth 20000 in
theorem JB_Up_faultOf_130 {p : Program} {l : Launch} {e : Env} {s : State} {m : MethodId} {args : Array Value} {below : List Frame} {meth : Method} {c : Code} {G : rs_G} {Bm : Nat} {S : rs_Shp} {Q : Int32 → rs_Mem → Prop} (C : rs_C "RouteSpeaker$Update" prog_10_method_2_code 7 (some .int) G p s m meth c args) (v0 : Nat) (x3 : Int32) (x5 : Int32) (σ : rs_Mem) (H : Heap) (locs : List Loc) (ls : Array Slot) (h_v0 : rs_Ok S 10 v0) (hH : rs_H G Bm S σ H) (hT : rs_T S σ) (hS : va_S (rs_A Bm) s.heap H locs) (hl : lv_has ls 7 [(0, .ref (Bm + v0)), (3, .int x3), (5, .int x5)]) (hF : B_Up_faultOf_130 S.2.2 Q v0 x3 x5 σ) :
    W p l e { frames := 3, cells := 0, slots := 0, locals := 68 } s m args below meth c H locs 0 0 (MQ below (rs_Qi G Bm S Q) args s 0 0 (rs_A Bm)) (F0 m 130 ls []) := by
  have hx := C.1
  have hb := C.2.1
  unfold B_Up_faultOf_130 at hF
  refine lv_iload_n hx hb d_Up_faultOf_130 rfl (lv_at hl 1 rfl) ?_
  refine lv_if_eq hx hb d_Up_faultOf_131 (tgt := 141) rfl (fun hc => ?_) (fun hc => ?_)
  · replace hF := hF.1 hc
    refine lv_iload hx hb d_Up_faultOf_141 (lv_at hl 2 rfl) ?_
    exact rs_iret C hH hT hS hF d_Up_faultOf_143
  · replace hF := hF.2 hc
    refine lv_aload_n hx hb d_Up_faultOf_134 rfl (lv_at hl 0 rfl) ?_
    refine rs_getR C hH hT h_v0 fk_10_0 tw_120 d_Up_faultOf_135 (fun h51 => ?_)
    refine rs_cv (rs_runV C hH hT hl (J_Ro_dropInner l h51 hF) rc_Ro_dropInner tw_778 tw_739 tw_740 h51 ⟨rfl, by decide, by decide⟩ rfl ⟨⟨rfl, rfl⟩, by decide, by decide, by decide⟩ (Nat.le_of_ble_eq_true rfl) rfl d_Up_faultOf_138) hS (fun σ52 H locs hH hT hS hF => ?_)
    refine lv_iload hx hb d_Up_faultOf_141 (lv_at hl 2 rfl) ?_
    exact rs_iret C hH hT hS hF d_Up_faultOf_143
set_option maxRecDepth 20000 in
theorem JB_Up_faultOf_114 {p : Program} {l : Launch} {e : Env} {s : State} {m : MethodId} {args : Array Value} {below : List Frame} {meth : Method} {c : Code} {G : rs_G} {Bm : Nat} {S : rs_Shp} {Q : Int32 → rs_Mem → Prop} (C : rs_C "RouteSpeaker$Update" prog_10_method_2_code 7 (some .int) G p s m meth c args) (v0 : Nat) (x3 : Int32) (x5 : Int32) (σ : rs_Mem) (H : Heap) (locs : List Loc) (ls : Array Slot) (h_v0 : rs_Ok S 10 v0) (hH : rs_H G Bm S σ H) (hT : rs_T S σ) (hS : va_S (rs_A Bm) s.heap H locs) (hl : lv_has ls 7 [(0, .ref (Bm + v0)), (3, .int x3), (5, .int x5)]) (hF : B_Up_faultOf_114 S.2.2 Q v0 x3 x5 σ) :
    W p l e { frames := 3, cells := 0, slots := 0, locals := 68 } s m args below meth c H locs 0 0 (MQ below (rs_Qi G Bm S Q) args s 0 0 (rs_A Bm)) (F0 m 114 ls []) := by
  have hx := C.1
  have hb := C.2.1
  unfold B_Up_faultOf_114 at hF
  refine lv_iload hx hb d_Up_faultOf_114 (lv_at hl 2 rfl) ?_
  refine lv_if_ne hx hb d_Up_faultOf_116 (tgt := 130) rfl (fun hc => ?_) (fun hc => ?_)
  · replace hF := hF.1 hc
    exact JB_Up_faultOf_130 C v0 x3 x5 σ _ _ _ h_v0 hH hT hS (lv_sub hl [0, 1, 2] rfl) hF
  · replace hF := hF.2 hc
    refine lv_aload_n hx hb d_Up_faultOf_119 rfl (lv_at hl 0 rfl) ?_
    refine rs_ci (rs_runV C hH hT hl (J_Up_hasOnlyPrefixes l h_v0 hF) rc_Up_hasOnlyPrefixes tw_765 tw_767 ts_30 h_v0 ⟨rfl, by decide, by decide⟩ rfl ⟨⟨rfl, rfl⟩, by decide, by decide, by decide⟩ (Nat.le_of_ble_eq_true rfl) rfl d_Up_faultOf_120) hS (fun x52 σ51 H locs hH hT hS hF => ?_)
    refine lv_if_ne hx hb d_Up_faultOf_123 (tgt := 130) rfl (fun hc => ?_) (fun hc => ?_)
    · replace hF := hF.1 hc
      exact JB_Up_faultOf_130 C v0 x3 x5 σ51 _ _ _ h_v0 hH hT hS (lv_sub hl [0, 1, 2] rfl) hF
    · replace hF := hF.2 hc
      refine lv_bipush hx hb d_Up_faultOf_126 kb_10 ?_
      refine lv_istore hx hb d_Up_faultOf_128 hl (by decide) (lv' := [(5, .int (10 : Int32)), (0, .ref (Bm + v0)), (3, .int x3)]) rfl (fun ls hl => ?_)
      exact JB_Up_faultOf_130 C v0 x3 (10 : Int32) σ51 _ _ _ h_v0 hH hT hS (lv_sub hl [1, 2, 0] rfl) hF
set_option maxRecDepth 20000 in
theorem JB_Up_faultOf_93 {p : Program} {l : Launch} {e : Env} {s : State} {m : MethodId} {args : Array Value} {below : List Frame} {meth : Method} {c : Code} {G : rs_G} {Bm : Nat} {S : rs_Shp} {Q : Int32 → rs_Mem → Prop} (C : rs_C "RouteSpeaker$Update" prog_10_method_2_code 7 (some .int) G p s m meth c args) (v0 : Nat) (x3 : Int32) (x4 : Int32) (x5 : Int32) (σ : rs_Mem) (H : Heap) (locs : List Loc) (ls : Array Slot) (h_v0 : rs_Ok S 10 v0) (hH : rs_H G Bm S σ H) (hT : rs_T S σ) (hS : va_S (rs_A Bm) s.heap H locs) (hl : lv_has ls 7 [(0, .ref (Bm + v0)), (3, .int x3), (4, .int x4), (5, .int x5)]) (hF : B_Up_faultOf_93 S.2.2 Q v0 x3 x4 x5 σ) :
    W p l e { frames := 3, cells := 0, slots := 0, locals := 68 } s m args below meth c H locs 0 0 (MQ below (rs_Qi G Bm S Q) args s 0 0 (rs_A Bm)) (F0 m 93 ls []) := by
  have hx := C.1
  have hb := C.2.1
  unfold B_Up_faultOf_93 at hF
  refine lv_iload hx hb d_Up_faultOf_93 (lv_at hl 3 rfl) ?_
  refine lv_if_ne hx hb d_Up_faultOf_95 (tgt := 114) rfl (fun hc => ?_) (fun hc => ?_)
  · replace hF := hF.1 hc
    exact JB_Up_faultOf_114 C v0 x3 x5 σ _ _ _ h_v0 hH hT hS (lv_sub hl [0, 1, 3] rfl) hF
  · replace hF := hF.2 hc
    refine lv_aload_n hx hb d_Up_faultOf_98 rfl (lv_at hl 0 rfl) ?_
    refine rs_getI C hH h_v0 fk_10_5 tw_127 d_Up_faultOf_99 ?_
    refine lv_if_le hx hb d_Up_faultOf_102 (tgt := 114) rfl (fun hc => ?_) (fun hc => ?_)
    · replace hF := hF.1 hc
      exact JB_Up_faultOf_114 C v0 x3 x5 σ _ _ _ h_v0 hH hT hS (lv_sub hl [0, 1, 3] rfl) hF
    · replace hF := hF.2 hc
      refine lv_aload_n hx hb d_Up_faultOf_105 rfl (lv_at hl 0 rfl) ?_
      refine lv_iload_n hx hb d_Up_faultOf_106 rfl (lv_at hl 1 rfl) ?_
      refine lv_iload hx hb d_Up_faultOf_107 (lv_at hl 2 rfl) ?_
      refine rs_ci (rs_runV C hH hT hl (J_Up_announcementFault l h_v0 hF) rc_Up_announcementFault tw_760 tw_762 ts_29 h_v0 ⟨rfl, by decide, by decide⟩ rfl ⟨⟨rfl, rfl⟩, by decide, by decide, by decide⟩ (Nat.le_of_ble_eq_true rfl) rfl d_Up_faultOf_109) hS (fun x52 σ51 H locs hH hT hS hF => ?_)
      refine lv_istore hx hb d_Up_faultOf_112 hl (by decide) (lv' := [(5, .int x52), (0, .ref (Bm + v0)), (3, .int x3), (4, .int x4)]) rfl (fun ls hl => ?_)
      exact JB_Up_faultOf_114 C v0 x3 x52 σ51 _ _ _ h_v0 hH hT hS (lv_sub hl [1, 2, 0] rfl) hF
set_option maxRecDepth 20000 in
theorem JL_Up_faultOf_32 {p : Program} {l : Launch} {e : Env} {s : State} {m : MethodId} {args : Array Value} {below : List Frame} {meth : Method} {c : Code} {G : rs_G} {Bm : Nat} {S : rs_Shp} {Q : Int32 → rs_Mem → Prop} (C : rs_C "RouteSpeaker$Update" prog_10_method_2_code 7 (some .int) G p s m meth c args) : ∀ n : Nat, ∀ (v0 : Nat) (x3 : Int32) (x4 : Int32) (x5 : Int32) (x6 : Int32) (σ : rs_Mem) (H : Heap) (locs : List Loc) (ls : Array Slot), rs_Ok S 10 v0 → rs_H G Bm S σ H → rs_T S σ → va_S (rs_A Bm) s.heap H locs → lv_has ls 7 [(0, .ref (Bm + v0)), (3, .int x3), (4, .int x4), (5, .int x5), (6, .int x6)] → (L_Up_faultOf_32 S.2.2 Q n) v0 x3 x4 x5 x6 σ → W p l e { frames := 3, cells := 0, slots := 0, locals := 68 } s m args below meth c H locs 0 0 (MQ below (rs_Qi G Bm S Q) args s 0 0 (rs_A Bm)) (F0 m 32 ls []) := by
  have hx := C.1
  have hb := C.2.1
  intro n
  induction n with
  | zero => intros; rename_i hF; exact hF.elim
  | succ n hK32 =>
    intro v0 x3 x4 x5 x6 σ H locs ls h_v0 hH hT hS hl hF
    replace hF : G_Up_faultOf_32 S.2.2 Q (L_Up_faultOf_32 S.2.2 Q n) v0 x3 x4 x5 x6 σ := hF
    unfold G_Up_faultOf_32 at hF
    refine lv_iload hx hb d_Up_faultOf_32 (lv_at hl 4 rfl) ?_
    refine lv_iconst hx hb d_Up_faultOf_34 ki_1 ?_
    refine lv_iadd hx hb d_Up_faultOf_35 ?_
    refine lv_aload_n hx hb d_Up_faultOf_36 rfl (lv_at hl 0 rfl) ?_
    refine rs_getI C hH h_v0 fk_10_7 tw_130 d_Up_faultOf_37 ?_
    refine lv_icmp_ge hx hb d_Up_faultOf_40 (tgt := 93) rfl (fun hc => ?_) (fun hc => ?_)
    · replace hF := hF.1 hc
      exact JB_Up_faultOf_93 C v0 x3 x4 x5 σ _ _ _ h_v0 hH hT hS (lv_sub hl [0, 1, 2, 3] rfl) hF
    · replace hF := hF.2 hc
      refine lv_iload hx hb d_Up_faultOf_43 (lv_at hl 3 rfl) ?_
      refine lv_if_ne hx hb d_Up_faultOf_45 (tgt := 93) rfl (fun hc => ?_) (fun hc => ?_)
      · replace hF := hF.1 hc
        exact JB_Up_faultOf_93 C v0 x3 x4 x5 σ _ _ _ h_v0 hH hT hS (lv_sub hl [0, 1, 2, 3] rfl) hF
      · replace hF := hF.2 hc
        refine lv_aload_n hx hb d_Up_faultOf_48 rfl (lv_at hl 0 rfl) ?_
        refine lv_aload_n hx hb d_Up_faultOf_49 rfl (lv_at hl 0 rfl) ?_
        refine rs_getR C hH hT h_v0 fk_10_2 tw_123 d_Up_faultOf_50 (fun h51 => ?_)
        refine lv_iload hx hb d_Up_faultOf_53 (lv_at hl 4 rfl) ?_
        obtain ⟨g52, hF⟩ := hF
        refine rs_iald C hH h51 g52 d_Up_faultOf_55 ?_
        refine lv_aload_n hx hb d_Up_faultOf_56 rfl (lv_at hl 0 rfl) ?_
        refine rs_getR C hH hT h_v0 fk_10_2 tw_123 d_Up_faultOf_57 (fun h53 => ?_)
        refine lv_iload hx hb d_Up_faultOf_60 (lv_at hl 4 rfl) ?_
        refine lv_iconst hx hb d_Up_faultOf_62 ki_1 ?_
        refine lv_iadd hx hb d_Up_faultOf_63 ?_
        obtain ⟨g54, hF⟩ := hF
        refine rs_iald C hH h53 g54 d_Up_faultOf_64 ?_
        refine lv_iload hx hb d_Up_faultOf_65 (lv_at hl 4 rfl) ?_
        refine lv_iconst hx hb d_Up_faultOf_67 ki_2 ?_
        refine lv_iadd hx hb d_Up_faultOf_68 ?_
        refine rs_ci (rs_runV C hH hT hl (J_Up_attributeFault l h_v0 hF) rc_Up_attributeFault tw_746 tw_748 ts_26 h_v0 ⟨rfl, by decide, by decide⟩ rfl ⟨⟨rfl, rfl⟩, by decide, by decide, by decide⟩ (Nat.le_of_ble_eq_true rfl) rfl d_Up_faultOf_69) hS (fun x56 σ55 H locs hH hT hS hF => ?_)
        refine lv_istore hx hb d_Up_faultOf_72 hl (by decide) (lv' := [(5, .int x56), (0, .ref (Bm + v0)), (3, .int x3), (4, .int x4), (6, .int x6)]) rfl (fun ls hl => ?_)
        refine lv_iload hx hb d_Up_faultOf_74 (lv_at hl 4 rfl) ?_
        refine lv_iconst hx hb d_Up_faultOf_76 ki_2 ?_
        refine lv_aload_n hx hb d_Up_faultOf_77 rfl (lv_at hl 1 rfl) ?_
        refine rs_getR C hH hT h_v0 fk_10_2 tw_123 d_Up_faultOf_78 (fun h57 => ?_)
        refine lv_iload hx hb d_Up_faultOf_81 (lv_at hl 4 rfl) ?_
        refine lv_iconst hx hb d_Up_faultOf_83 ki_1 ?_
        refine lv_iadd hx hb d_Up_faultOf_84 ?_
        obtain ⟨g58, hF⟩ := hF
        refine rs_iald C hH h57 g58 d_Up_faultOf_85 ?_
        refine lv_iadd hx hb d_Up_faultOf_86 ?_
        refine lv_iadd hx hb d_Up_faultOf_87 ?_
        refine lv_topi (fun x59 ex59 => ?_)
        replace hF := hF x59 ex59
        refine lv_istore hx hb d_Up_faultOf_88 hl (by decide) (lv' := [(6, .int x59), (5, .int x56), (0, .ref (Bm + v0)), (3, .int x3), (4, .int x4)]) rfl (fun ls hl => ?_)
        refine lv_goto hx hb d_Up_faultOf_90 (tgt := 32) rfl ?_
        exact hK32 v0 x3 x4 x56 x59 σ55 _ _ _ h_v0 hH hT hS (lv_sub hl [2, 3, 4, 1, 0] rfl) hF
abbrev y_Up_faultOf : MethodName := ({ cls := "RouteSpeaker$Update", name := "faultOf", desc := "([IIZI)I" } : Jvm.MethodName)
theorem rc_Up_faultOf : rs_Cal y_Up_faultOf prog_10_method_2_code 7 (some .int) 4 := ⟨tw_729, tw_4, by decide, by decide, by decide +kernel⟩
set_option maxRecDepth 20000 in
theorem J_Up_faultOf (l : Launch) {G : rs_G} {Bm : Nat} {S : rs_Shp} {v0 : Nat} {v1 : Nat} {x2 : Int32} {x3 : Int32} {x4 : Int32} {σ : rs_Mem} {Q : Int32 → rs_Mem → Prop} (h_v0 : rs_Ok S 10 v0) (h_v1 : rs_Ok S 20 v1) (hF : F_Up_faultOf S.2.2 v0 v1 x2 x3 x4 σ Q) :
    Met l y_Up_faultOf (rs_ws y_Up_faultOf prog_10_method_2_code 7 (some .int)) { frames := 3, cells := 0, slots := 0, locals := 68 } (rs_P G Bm S σ [.ref (Bm + v0), .ref (Bm + v1), .int x2, .int x3, .int x4]) (rs_Qi G Bm S Q) 0 0 (rs_A Bm) := by
  refine rs_met (own := "RouteSpeaker$Update") (by decide) rfl (Nat.le_of_ble_eq_true rfl) (fun p e s m below meth c ls C hl hH hT hS => ?_)
  replace hl : lv_has ls 7 [(0, .ref (Bm + v0)), (1, .ref (Bm + v1)), (2, .int x2), (3, .int x3), (4, .int x4)] := hl
  have hx := C.1
  have hb := C.2.1
  unfold F_Up_faultOf at hF
  refine lv_aload_n hx hb d_Up_faultOf_0 rfl (lv_at hl 0 rfl) ?_
  refine lv_aload_n hx hb d_Up_faultOf_1 rfl (lv_at hl 1 rfl) ?_
  refine rs_putR C hH hT hS h_v0 fk_10_2 rfl rfl rfl h_v1 tw_123 d_Up_faultOf_2 (fun σ51 H locs eσ51 hH hT hS => ?_)
  replace hF := hF σ51 eσ51
  refine lv_aload_n hx hb d_Up_faultOf_5 rfl (lv_at hl 0 rfl) ?_
  refine lv_iload_n hx hb d_Up_faultOf_6 rfl (lv_at hl 2 rfl) ?_
  refine rs_putI C hH hT hS h_v0 fk_10_3 rfl tw_124 d_Up_faultOf_7 (fun σ52 H locs eσ52 hH hT hS => ?_)
  replace hF := hF σ52 eσ52
  refine lv_aload_n hx hb d_Up_faultOf_10 rfl (lv_at hl 0 rfl) ?_
  refine rs_cv (rs_runV C hH hT hl (J_Up_clear l h_v0 hF) rc_Up_clear tw_730 tw_732 ts_24 h_v0 ⟨rfl, by decide, by decide⟩ rfl ⟨⟨rfl, rfl⟩, by decide, by decide, by decide⟩ (Nat.le_of_ble_eq_true rfl) rfl d_Up_faultOf_11) hS (fun σ53 H locs hH hT hS hF => ?_)
  refine lv_aload_n hx hb d_Up_faultOf_14 rfl (lv_at hl 0 rfl) ?_
  refine rs_ci (rs_runV C hH hT hl (J_Up_isFramed l h_v0 hF) rc_Up_isFramed tw_742 tw_744 ts_25 h_v0 ⟨rfl, by decide, by decide⟩ rfl ⟨⟨rfl, rfl⟩, by decide, by decide, by decide⟩ (Nat.le_of_ble_eq_true rfl) rfl d_Up_faultOf_15) hS (fun x55 σ54 H locs hH hT hS hF => ?_)
  refine lv_if_ne hx hb d_Up_faultOf_18 (tgt := 23) rfl (fun hc => ?_) (fun hc => ?_)
  · replace hF := hF.1 hc
    refine lv_iconst hx hb d_Up_faultOf_23 ki_0 ?_
    refine lv_istore hx hb d_Up_faultOf_24 hl (by decide) (lv' := [(5, .int (0 : Int32)), (0, .ref (Bm + v0)), (1, .ref (Bm + v1)), (2, .int x2), (3, .int x3), (4, .int x4)]) rfl (fun ls hl => ?_)
    refine lv_aload_n hx hb d_Up_faultOf_26 rfl (lv_at hl 1 rfl) ?_
    refine rs_getI C hH h_v0 fk_10_6 tw_129 d_Up_faultOf_27 ?_
    refine lv_topi (fun x56 ex56 => ?_)
    replace hF := hF x56 ex56
    refine lv_istore hx hb d_Up_faultOf_30 hl (by decide) (lv' := [(6, .int x56), (5, .int (0 : Int32)), (0, .ref (Bm + v0)), (1, .ref (Bm + v1)), (2, .int x2), (3, .int x3), (4, .int x4)]) rfl (fun ls hl => ?_)
    obtain ⟨n, hF⟩ := hF
    exact JL_Up_faultOf_32 C n v0 x3 x4 (0 : Int32) x56 σ54 _ _ _ h_v0 hH hT hS (lv_sub hl [2, 5, 6, 1, 0] rfl) hF
  · replace hF := hF.2 hc
    refine lv_iconst hx hb d_Up_faultOf_21 ki_1 ?_
    exact rs_iret C hH hT hS hF d_Up_faultOf_22
/-! RouteSpeaker$Update.isFirstOfItsKind(I)Z -/
theorem d_Up_isFirstOfItsKind_0 : decode prog_10_method_6_code 0 = .ok (.aload_n 0, 1) := by decide +kernel
theorem d_Up_isFirstOfItsKind_1 : decode prog_10_method_6_code 1 = .ok (.iload_n 1, 1) := by decide +kernel
theorem d_Up_isFirstOfItsKind_2 : decode prog_10_method_6_code 2 = .ok (.invokevirtual 65, 3) := by decide +kernel
theorem d_Up_isFirstOfItsKind_5 : decode prog_10_method_6_code 5 = .ok (.istore_n 2, 1) := by decide +kernel
theorem d_Up_isFirstOfItsKind_6 : decode prog_10_method_6_code 6 = .ok (.iconst 0, 1) := by decide +kernel
theorem d_Up_isFirstOfItsKind_7 : decode prog_10_method_6_code 7 = .ok (.istore_n 3, 1) := by decide +kernel
theorem d_Up_isFirstOfItsKind_8 : decode prog_10_method_6_code 8 = .ok (.iload_n 3, 1) := by decide +kernel
theorem d_Up_isFirstOfItsKind_9 : decode prog_10_method_6_code 9 = .ok (.iload_n 1, 1) := by decide +kernel
theorem d_Up_isFirstOfItsKind_10 : decode prog_10_method_6_code 10 = .ok (.if_icmp .ge (54), 3) := by decide +kernel
theorem d_Up_isFirstOfItsKind_13 : decode prog_10_method_6_code 13 = .ok (.aload_n 0, 1) := by decide +kernel
theorem d_Up_isFirstOfItsKind_14 : decode prog_10_method_6_code 14 = .ok (.iload_n 3, 1) := by decide +kernel
theorem d_Up_isFirstOfItsKind_15 : decode prog_10_method_6_code 15 = .ok (.invokevirtual 65, 3) := by decide +kernel
theorem d_Up_isFirstOfItsKind_18 : decode prog_10_method_6_code 18 = .ok (.istore 4, 2) := by decide +kernel
theorem d_Up_isFirstOfItsKind_20 : decode prog_10_method_6_code 20 = .ok (.aload_n 0, 1) := by decide +kernel
theorem d_Up_isFirstOfItsKind_21 : decode prog_10_method_6_code 21 = .ok (.getfield 22, 3) := by decide +kernel
theorem d_Up_isFirstOfItsKind_24 : decode prog_10_method_6_code 24 = .ok (.iload 4, 2) := by decide +kernel
theorem d_Up_isFirstOfItsKind_26 : decode prog_10_method_6_code 26 = .ok (.iaload, 1) := by decide +kernel
theorem d_Up_isFirstOfItsKind_27 : decode prog_10_method_6_code 27 = .ok (.aload_n 0, 1) := by decide +kernel
theorem d_Up_isFirstOfItsKind_28 : decode prog_10_method_6_code 28 = .ok (.getfield 22, 3) := by decide +kernel
theorem d_Up_isFirstOfItsKind_31 : decode prog_10_method_6_code 31 = .ok (.iload_n 2, 1) := by decide +kernel
theorem d_Up_isFirstOfItsKind_32 : decode prog_10_method_6_code 32 = .ok (.iaload, 1) := by decide +kernel
theorem d_Up_isFirstOfItsKind_33 : decode prog_10_method_6_code 33 = .ok (.if_icmp .ne (25), 3) := by decide +kernel
theorem d_Up_isFirstOfItsKind_36 : decode prog_10_method_6_code 36 = .ok (.aload_n 0, 1) := by decide +kernel
theorem d_Up_isFirstOfItsKind_37 : decode prog_10_method_6_code 37 = .ok (.getfield 22, 3) := by decide +kernel
theorem d_Up_isFirstOfItsKind_40 : decode prog_10_method_6_code 40 = .ok (.iload 4, 2) := by decide +kernel
theorem d_Up_isFirstOfItsKind_42 : decode prog_10_method_6_code 42 = .ok (.iconst 1, 1) := by decide +kernel
theorem d_Up_isFirstOfItsKind_43 : decode prog_10_method_6_code 43 = .ok (.iadd, 1) := by decide +kernel
theorem d_Up_isFirstOfItsKind_44 : decode prog_10_method_6_code 44 = .ok (.iaload, 1) := by decide +kernel
theorem d_Up_isFirstOfItsKind_45 : decode prog_10_method_6_code 45 = .ok (.aload_n 0, 1) := by decide +kernel
theorem d_Up_isFirstOfItsKind_46 : decode prog_10_method_6_code 46 = .ok (.getfield 22, 3) := by decide +kernel
theorem d_Up_isFirstOfItsKind_49 : decode prog_10_method_6_code 49 = .ok (.iload_n 2, 1) := by decide +kernel
theorem d_Up_isFirstOfItsKind_50 : decode prog_10_method_6_code 50 = .ok (.iconst 1, 1) := by decide +kernel
theorem d_Up_isFirstOfItsKind_51 : decode prog_10_method_6_code 51 = .ok (.iadd, 1) := by decide +kernel
theorem d_Up_isFirstOfItsKind_52 : decode prog_10_method_6_code 52 = .ok (.iaload, 1) := by decide +kernel
theorem d_Up_isFirstOfItsKind_53 : decode prog_10_method_6_code 53 = .ok (.if_icmp .ne (5), 3) := by decide +kernel
theorem d_Up_isFirstOfItsKind_56 : decode prog_10_method_6_code 56 = .ok (.iconst 0, 1) := by decide +kernel
theorem d_Up_isFirstOfItsKind_57 : decode prog_10_method_6_code 57 = .ok (.ireturn, 1) := by decide +kernel
theorem d_Up_isFirstOfItsKind_58 : decode prog_10_method_6_code 58 = .ok (.iinc 3 (1), 3) := by decide +kernel
theorem d_Up_isFirstOfItsKind_61 : decode prog_10_method_6_code 61 = .ok (.goto (-53), 3) := by decide +kernel
theorem d_Up_isFirstOfItsKind_64 : decode prog_10_method_6_code 64 = .ok (.iconst 1, 1) := by decide +kernel
theorem d_Up_isFirstOfItsKind_65 : decode prog_10_method_6_code 65 = .ok (.ireturn, 1) := by decide +kernel
def G_Up_isFirstOfItsKind_8 (N : Nat → Nat) (Q : Int32 → rs_Mem → Prop) (K8 : Nat → Int32 → Int32 → Int32 → rs_Mem → Prop) (v0 : Nat) (x1 : Int32) (x2 : Int32) (x3 : Int32) (σ : rs_Mem) : Prop :=
  ((x1 ≤ x3 → (Q (1 : Int32) σ)) ∧ (¬ (x1 ≤ x3) → (F_Up_announcedAt N v0 x3 σ (fun x52 σ51 => (vp_in x52 (N (rs_R σ51 v0 2)) ∧ (vp_in x2 (N (rs_R σ51 v0 2)) ∧ ((¬ ((rs_I σ51 (rs_R σ51 v0 2) x52.toNatClampNeg) = (rs_I σ51 (rs_R σ51 v0 2) x2.toNatClampNeg)) → (∀ x57 : Int32, x57 = x3 + (1 : Int32) → (K8 v0 x1 x2 x57 σ51))) ∧ ((rs_I σ51 (rs_R σ51 v0 2) x52.toNatClampNeg) = (rs_I σ51 (rs_R σ51 v0 2) x2.toNatClampNeg) → (vp_in (x52 + (1 : Int32)) (N (rs_R σ51 v0 2)) ∧ (vp_in (x2 + (1 : Int32)) (N (rs_R σ51 v0 2)) ∧ ((¬ ((rs_I σ51 (rs_R σ51 v0 2) (x52 + (1 : Int32)).toNatClampNeg) = (rs_I σ51 (rs_R σ51 v0 2) (x2 + (1 : Int32)).toNatClampNeg)) → (∀ x61 : Int32, x61 = x3 + (1 : Int32) → (K8 v0 x1 x2 x61 σ51))) ∧ ((rs_I σ51 (rs_R σ51 v0 2) (x52 + (1 : Int32)).toNatClampNeg) = (rs_I σ51 (rs_R σ51 v0 2) (x2 + (1 : Int32)).toNatClampNeg) → (Q (0 : Int32) σ51)))))))))))))
noncomputable def L_Up_isFirstOfItsKind_8 (N : Nat → Nat) (Q : Int32 → rs_Mem → Prop) (n : Nat) : Nat → Int32 → Int32 → Int32 → rs_Mem → Prop := Nat.rec (motive := fun _ => Nat → Int32 → Int32 → Int32 → rs_Mem → Prop) (fun _ _ _ _ _ => False) (fun _ K => G_Up_isFirstOfItsKind_8 N Q K) n
def F_Up_isFirstOfItsKind (N : Nat → Nat) (v0 : Nat) (x1 : Int32) (σ : rs_Mem) (Q : Int32 → rs_Mem → Prop) : Prop :=
  (F_Up_announcedAt N v0 x1 σ (fun x52 σ51 => (∃ n : Nat, L_Up_isFirstOfItsKind_8 N Q n v0 x1 x52 (0 : Int32) σ51)))
set_option maxRecDepth 20000 in
theorem JL_Up_isFirstOfItsKind_8 {p : Program} {l : Launch} {e : Env} {s : State} {m : MethodId} {args : Array Value} {below : List Frame} {meth : Method} {c : Code} {G : rs_G} {Bm : Nat} {S : rs_Shp} {Q : Int32 → rs_Mem → Prop} (C : rs_C "RouteSpeaker$Update" prog_10_method_6_code 5 (some .boolean) G p s m meth c args) : ∀ n : Nat, ∀ (v0 : Nat) (x1 : Int32) (x2 : Int32) (x3 : Int32) (σ : rs_Mem) (H : Heap) (locs : List Loc) (ls : Array Slot), rs_Ok S 10 v0 → rs_H G Bm S σ H → rs_T S σ → va_S (rs_A Bm) s.heap H locs → lv_has ls 5 [(0, .ref (Bm + v0)), (1, .int x1), (2, .int x2), (3, .int x3)] → (L_Up_isFirstOfItsKind_8 S.2.2 Q n) v0 x1 x2 x3 σ → W p l e { frames := 1, cells := 0, slots := 0, locals := 21 } s m args below meth c H locs 0 0 (MQ below (rs_Qi G Bm S Q) args s 0 0 (rs_A Bm)) (F0 m 8 ls []) := by
  have hx := C.1
  have hb := C.2.1
  intro n
  induction n with
  | zero => intros; rename_i hF; exact hF.elim
  | succ n hK8 =>
    intro v0 x1 x2 x3 σ H locs ls h_v0 hH hT hS hl hF
    replace hF : G_Up_isFirstOfItsKind_8 S.2.2 Q (L_Up_isFirstOfItsKind_8 S.2.2 Q n) v0 x1 x2 x3 σ := hF
    unfold G_Up_isFirstOfItsKind_8 at hF
    refine lv_iload_n hx hb d_Up_isFirstOfItsKind_8 rfl (lv_at hl 3 rfl) ?_
    refine lv_iload_n hx hb d_Up_isFirstOfItsKind_9 rfl (lv_at hl 1 rfl) ?_
    refine lv_icmp_ge hx hb d_Up_isFirstOfItsKind_10 (tgt := 64) rfl (fun hc => ?_) (fun hc => ?_)
    · replace hF := hF.1 hc
      refine lv_iconst hx hb d_Up_isFirstOfItsKind_64 ki_1 ?_
      exact rs_zret C hH hT hS (by decide) hF d_Up_isFirstOfItsKind_65
    · replace hF := hF.2 hc
      refine lv_aload_n hx hb d_Up_isFirstOfItsKind_13 rfl (lv_at hl 0 rfl) ?_
      refine lv_iload_n hx hb d_Up_isFirstOfItsKind_14 rfl (lv_at hl 3 rfl) ?_
      refine rs_ci (rs_runV C hH hT hl (J_Up_announcedAt l h_v0 hF) rc_Up_announcedAt tw_774 tw_775 tw_776 h_v0 ⟨rfl, by decide, by decide⟩ rfl ⟨⟨rfl, rfl⟩, by decide, by decide, by decide⟩ (Nat.le_of_ble_eq_true rfl) rfl d_Up_isFirstOfItsKind_15) hS (fun x52 σ51 H locs hH hT hS hF => ?_)
      refine lv_istore hx hb d_Up_isFirstOfItsKind_18 hl (by decide) (lv' := [(4, .int x52), (0, .ref (Bm + v0)), (1, .int x1), (2, .int x2), (3, .int x3)]) rfl (fun ls hl => ?_)
      refine lv_aload_n hx hb d_Up_isFirstOfItsKind_20 rfl (lv_at hl 1 rfl) ?_
      refine rs_getR C hH hT h_v0 fk_10_2 tw_123 d_Up_isFirstOfItsKind_21 (fun h53 => ?_)
      refine lv_iload hx hb d_Up_isFirstOfItsKind_24 (lv_at hl 0 rfl) ?_
      obtain ⟨g54, hF⟩ := hF
      refine rs_iald C hH h53 g54 d_Up_isFirstOfItsKind_26 ?_
      refine lv_aload_n hx hb d_Up_isFirstOfItsKind_27 rfl (lv_at hl 1 rfl) ?_
      refine rs_getR C hH hT h_v0 fk_10_2 tw_123 d_Up_isFirstOfItsKind_28 (fun h55 => ?_)
      refine lv_iload_n hx hb d_Up_isFirstOfItsKind_31 rfl (lv_at hl 3 rfl) ?_
      obtain ⟨g56, hF⟩ := hF
      refine rs_iald C hH h55 g56 d_Up_isFirstOfItsKind_32 ?_
      refine lv_icmp_ne hx hb d_Up_isFirstOfItsKind_33 (tgt := 58) rfl (fun hc => ?_) (fun hc => ?_)
      · replace hF := hF.1 hc
        obtain ⟨x57, ex57⟩ : ∃ z : Int32, z = x3 + (1 : Int32) := ⟨_, rfl⟩
        replace hF := hF x57 ex57
        refine lv_iinc hx hb d_Up_isFirstOfItsKind_58 hl (k := 4) rfl (v := x57) (by rw [ki_1, ex57]) (by decide) (lv' := [(3, .int x57), (4, .int x52), (0, .ref (Bm + v0)), (1, .int x1), (2, .int x2)]) rfl (fun ls hl => ?_)
        refine lv_goto hx hb d_Up_isFirstOfItsKind_61 (tgt := 8) rfl ?_
        exact hK8 v0 x1 x2 x57 σ51 _ _ _ h_v0 hH hT hS (lv_sub hl [2, 3, 4, 0] rfl) hF
      · replace hF := hF.2 hc
        refine lv_aload_n hx hb d_Up_isFirstOfItsKind_36 rfl (lv_at hl 1 rfl) ?_
        refine rs_getR C hH hT h_v0 fk_10_2 tw_123 d_Up_isFirstOfItsKind_37 (fun h57 => ?_)
        refine lv_iload hx hb d_Up_isFirstOfItsKind_40 (lv_at hl 0 rfl) ?_
        refine lv_iconst hx hb d_Up_isFirstOfItsKind_42 ki_1 ?_
        refine lv_iadd hx hb d_Up_isFirstOfItsKind_43 ?_
        obtain ⟨g58, hF⟩ := hF
        refine rs_iald C hH h57 g58 d_Up_isFirstOfItsKind_44 ?_
        refine lv_aload_n hx hb d_Up_isFirstOfItsKind_45 rfl (lv_at hl 1 rfl) ?_
        refine rs_getR C hH hT h_v0 fk_10_2 tw_123 d_Up_isFirstOfItsKind_46 (fun h59 => ?_)
        refine lv_iload_n hx hb d_Up_isFirstOfItsKind_49 rfl (lv_at hl 3 rfl) ?_
        refine lv_iconst hx hb d_Up_isFirstOfItsKind_50 ki_1 ?_
        refine lv_iadd hx hb d_Up_isFirstOfItsKind_51 ?_
        obtain ⟨g60, hF⟩ := hF
        refine rs_iald C hH h59 g60 d_Up_isFirstOfItsKind_52 ?_
        refine lv_icmp_ne hx hb d_Up_isFirstOfItsKind_53 (tgt := 58) rfl (fun hc => ?_) (fun hc => ?_)
        · replace hF := hF.1 hc
          obtain ⟨x61, ex61⟩ : ∃ z : Int32, z = x3 + (1 : Int32) := ⟨_, rfl⟩
          replace hF := hF x61 ex61
          refine lv_iinc hx hb d_Up_isFirstOfItsKind_58 hl (k := 4) rfl (v := x61) (by rw [ki_1, ex61]) (by decide) (lv' := [(3, .int x61), (4, .int x52), (0, .ref (Bm + v0)), (1, .int x1), (2, .int x2)]) rfl (fun ls hl => ?_)
          refine lv_goto hx hb d_Up_isFirstOfItsKind_61 (tgt := 8) rfl ?_
          exact hK8 v0 x1 x2 x61 σ51 _ _ _ h_v0 hH hT hS (lv_sub hl [2, 3, 4, 0] rfl) hF
        · replace hF := hF.2 hc
          refine lv_iconst hx hb d_Up_isFirstOfItsKind_56 ki_0 ?_
          exact rs_zret C hH hT hS (by decide) hF d_Up_isFirstOfItsKind_57
abbrev y_Up_isFirstOfItsKind : MethodName := ({ cls := "RouteSpeaker$Update", name := "isFirstOfItsKind", desc := "(I)Z" } : Jvm.MethodName)
theorem rc_Up_isFirstOfItsKind : rs_Cal y_Up_isFirstOfItsKind prog_10_method_6_code 5 (some .boolean) 1 := ⟨tw_787, tw_4, by decide, by decide, by decide +kernel⟩
set_option maxRecDepth 20000 in
theorem J_Up_isFirstOfItsKind (l : Launch) {G : rs_G} {Bm : Nat} {S : rs_Shp} {v0 : Nat} {x1 : Int32} {σ : rs_Mem} {Q : Int32 → rs_Mem → Prop} (h_v0 : rs_Ok S 10 v0) (hF : F_Up_isFirstOfItsKind S.2.2 v0 x1 σ Q) :
    Met l y_Up_isFirstOfItsKind (rs_ws y_Up_isFirstOfItsKind prog_10_method_6_code 5 (some .boolean)) { frames := 1, cells := 0, slots := 0, locals := 21 } (rs_P G Bm S σ [.ref (Bm + v0), .int x1]) (rs_Qi G Bm S Q) 0 0 (rs_A Bm) := by
  refine rs_met (own := "RouteSpeaker$Update") (by decide) rfl (Nat.le_of_ble_eq_true rfl) (fun p e s m below meth c ls C hl hH hT hS => ?_)
  replace hl : lv_has ls 5 [(0, .ref (Bm + v0)), (1, .int x1)] := hl
  have hx := C.1
  have hb := C.2.1
  unfold F_Up_isFirstOfItsKind at hF
  refine lv_aload_n hx hb d_Up_isFirstOfItsKind_0 rfl (lv_at hl 0 rfl) ?_
  refine lv_iload_n hx hb d_Up_isFirstOfItsKind_1 rfl (lv_at hl 1 rfl) ?_
  refine rs_ci (rs_runV C hH hT hl (J_Up_announcedAt l h_v0 hF) rc_Up_announcedAt tw_774 tw_775 tw_776 h_v0 ⟨rfl, by decide, by decide⟩ rfl ⟨⟨rfl, rfl⟩, by decide, by decide, by decide⟩ (Nat.le_of_ble_eq_true rfl) rfl d_Up_isFirstOfItsKind_2) hS (fun x52 σ51 H locs hH hT hS hF => ?_)
  refine lv_istore_n hx hb d_Up_isFirstOfItsKind_5 rfl hl (by decide) (lv' := [(2, .int x52), (0, .ref (Bm + v0)), (1, .int x1)]) rfl (fun ls hl => ?_)
  refine lv_iconst hx hb d_Up_isFirstOfItsKind_6 ki_0 ?_
  refine lv_istore_n hx hb d_Up_isFirstOfItsKind_7 rfl hl (by decide) (lv' := [(3, .int (0 : Int32)), (2, .int x52), (0, .ref (Bm + v0)), (1, .int x1)]) rfl (fun ls hl => ?_)
  obtain ⟨n, hF⟩ := hF
  exact JL_Up_isFirstOfItsKind_8 C n v0 x1 x52 (0 : Int32) σ51 _ _ _ h_v0 hH hT hS (lv_sub hl [2, 3, 1, 0] rfl) hF
/-! RouteSpeaker$Update.countKnown(LRouteSpeaker$Prefixes;)I -/
theorem d_Up_countKnown_0 : decode prog_10_method_5_code 0 = .ok (.aload_n 1, 1) := by decide +kernel
theorem d_Up_countKnown_1 : decode prog_10_method_5_code 1 = .ok (.getfield 60, 3) := by decide +kernel
theorem d_Up_countKnown_4 : decode prog_10_method_5_code 4 = .ok (.istore_n 2, 1) := by decide +kernel
theorem d_Up_countKnown_5 : decode prog_10_method_5_code 5 = .ok (.iconst 0, 1) := by decide +kernel
theorem d_Up_countKnown_6 : decode prog_10_method_5_code 6 = .ok (.istore_n 3, 1) := by decide +kernel
theorem d_Up_countKnown_7 : decode prog_10_method_5_code 7 = .ok (.iload_n 3, 1) := by decide +kernel
theorem d_Up_countKnown_8 : decode prog_10_method_5_code 8 = .ok (.aload_n 0, 1) := by decide +kernel
theorem d_Up_countKnown_9 : decode prog_10_method_5_code 9 = .ok (.getfield 47, 3) := by decide +kernel
theorem d_Up_countKnown_12 : decode prog_10_method_5_code 12 = .ok (.if_icmp .ge (51), 3) := by decide +kernel
theorem d_Up_countKnown_15 : decode prog_10_method_5_code 15 = .ok (.aload_n 0, 1) := by decide +kernel
theorem d_Up_countKnown_16 : decode prog_10_method_5_code 16 = .ok (.iload_n 3, 1) := by decide +kernel
theorem d_Up_countKnown_17 : decode prog_10_method_5_code 17 = .ok (.invokevirtual 65, 3) := by decide +kernel
theorem d_Up_countKnown_20 : decode prog_10_method_5_code 20 = .ok (.istore 4, 2) := by decide +kernel
theorem d_Up_countKnown_22 : decode prog_10_method_5_code 22 = .ok (.aload_n 1, 1) := by decide +kernel
theorem d_Up_countKnown_23 : decode prog_10_method_5_code 23 = .ok (.aload_n 0, 1) := by decide +kernel
theorem d_Up_countKnown_24 : decode prog_10_method_5_code 24 = .ok (.getfield 22, 3) := by decide +kernel
theorem d_Up_countKnown_27 : decode prog_10_method_5_code 27 = .ok (.iload 4, 2) := by decide +kernel
theorem d_Up_countKnown_29 : decode prog_10_method_5_code 29 = .ok (.iaload, 1) := by decide +kernel
theorem d_Up_countKnown_30 : decode prog_10_method_5_code 30 = .ok (.aload_n 0, 1) := by decide +kernel
theorem d_Up_countKnown_31 : decode prog_10_method_5_code 31 = .ok (.getfield 22, 3) := by decide +kernel
theorem d_Up_countKnown_34 : decode prog_10_method_5_code 34 = .ok (.iload 4, 2) := by decide +kernel
theorem d_Up_countKnown_36 : decode prog_10_method_5_code 36 = .ok (.iconst 1, 1) := by decide +kernel
theorem d_Up_countKnown_37 : decode prog_10_method_5_code 37 = .ok (.iadd, 1) := by decide +kernel
theorem d_Up_countKnown_38 : decode prog_10_method_5_code 38 = .ok (.iaload, 1) := by decide +kernel
theorem d_Up_countKnown_39 : decode prog_10_method_5_code 39 = .ok (.invokevirtual 69, 3) := by decide +kernel
theorem d_Up_countKnown_42 : decode prog_10_method_5_code 42 = .ok (.iconst (-1), 1) := by decide +kernel
theorem d_Up_countKnown_43 : decode prog_10_method_5_code 43 = .ok (.if_icmp .ne (14), 3) := by decide +kernel
theorem d_Up_countKnown_46 : decode prog_10_method_5_code 46 = .ok (.aload_n 0, 1) := by decide +kernel
theorem d_Up_countKnown_47 : decode prog_10_method_5_code 47 = .ok (.iload_n 3, 1) := by decide +kernel
theorem d_Up_countKnown_48 : decode prog_10_method_5_code 48 = .ok (.invokevirtual 73, 3) := by decide +kernel
theorem d_Up_countKnown_51 : decode prog_10_method_5_code 51 = .ok (.ifCond .eq (6), 3) := by decide +kernel
theorem d_Up_countKnown_54 : decode prog_10_method_5_code 54 = .ok (.iinc 2 (1), 3) := by decide +kernel
theorem d_Up_countKnown_57 : decode prog_10_method_5_code 57 = .ok (.iinc 3 (1), 3) := by decide +kernel
theorem d_Up_countKnown_60 : decode prog_10_method_5_code 60 = .ok (.goto (-53), 3) := by decide +kernel
theorem d_Up_countKnown_63 : decode prog_10_method_5_code 63 = .ok (.iload_n 2, 1) := by decide +kernel
theorem d_Up_countKnown_64 : decode prog_10_method_5_code 64 = .ok (.ireturn, 1) := by decide +kernel
def G_Up_countKnown_7 (N : Nat → Nat) (Q : Int32 → rs_Mem → Prop) (K7 : Nat → Nat → Int32 → Int32 → rs_Mem → Prop) (v0 : Nat) (v1 : Nat) (x2 : Int32) (x3 : Int32) (σ : rs_Mem) : Prop :=
  (((rs_I σ v0 5) ≤ x3 → (Q x2 σ)) ∧ (¬ ((rs_I σ v0 5) ≤ x3) → (F_Up_announcedAt N v0 x3 σ (fun x52 σ51 => (vp_in x52 (N (rs_R σ51 v0 2)) ∧ (vp_in (x52 + (1 : Int32)) (N (rs_R σ51 v0 2)) ∧ (F_Px_find N v1 (rs_I σ51 (rs_R σ51 v0 2) x52.toNatClampNeg) (rs_I σ51 (rs_R σ51 v0 2) (x52 + (1 : Int32)).toNatClampNeg) σ51 (fun x58 σ57 => ((¬ (x58 = (-1 : Int32)) → (∀ x59 : Int32, x59 = x3 + (1 : Int32) → (K7 v0 v1 x2 x59 σ57))) ∧ (x58 = (-1 : Int32) → (F_Up_isFirstOfItsKind N v0 x3 σ57 (fun x60 σ59 => ((x60 = 0 → (∀ x61 : Int32, x61 = x3 + (1 : Int32) → (K7 v0 v1 x2 x61 σ59))) ∧ (¬ (x60 = 0) → (∀ x61 : Int32, x61 = x2 + (1 : Int32) → (∀ x62 : Int32, x62 = x3 + (1 : Int32) → (K7 v0 v1 x61 x62 σ59)))))))))))))))))
noncomputable def L_Up_countKnown_7 (N : Nat → Nat) (Q : Int32 → rs_Mem → Prop) (n : Nat) : Nat → Nat → Int32 → Int32 → rs_Mem → Prop := Nat.rec (motive := fun _ => Nat → Nat → Int32 → Int32 → rs_Mem → Prop) (fun _ _ _ _ _ => False) (fun _ K => G_Up_countKnown_7 N Q K) n
def F_Up_countKnown (N : Nat → Nat) (v0 : Nat) (v1 : Nat) (σ : rs_Mem) (Q : Int32 → rs_Mem → Prop) : Prop :=
  (∀ x51 : Int32, x51 = (rs_I σ v1 3) → (∃ n : Nat, L_Up_countKnown_7 N Q n v0 v1 x51 (0 : Int32) σ))
set_option maxRecDepth 20000 in
theorem JL_Up_countKnown_7 {p : Program} {l : Launch} {e : Env} {s : State} {m : MethodId} {args : Array Value} {below : List Frame} {meth : Method} {c : Code} {G : rs_G} {Bm : Nat} {S : rs_Shp} {Q : Int32 → rs_Mem → Prop} (C : rs_C "RouteSpeaker$Update" prog_10_method_5_code 5 (some .int) G p s m meth c args) : ∀ n : Nat, ∀ (v0 : Nat) (v1 : Nat) (x2 : Int32) (x3 : Int32) (σ : rs_Mem) (H : Heap) (locs : List Loc) (ls : Array Slot), rs_Ok S 10 v0 → rs_Ok S 7 v1 → rs_H G Bm S σ H → rs_T S σ → va_S (rs_A Bm) s.heap H locs → lv_has ls 5 [(0, .ref (Bm + v0)), (1, .ref (Bm + v1)), (2, .int x2), (3, .int x3)] → (L_Up_countKnown_7 S.2.2 Q n) v0 v1 x2 x3 σ → W p l e { frames := 2, cells := 0, slots := 0, locals := 45 } s m args below meth c H locs 0 0 (MQ below (rs_Qi G Bm S Q) args s 0 0 (rs_A Bm)) (F0 m 7 ls []) := by
  have hx := C.1
  have hb := C.2.1
  intro n
  induction n with
  | zero => intros; rename_i hF; exact hF.elim
  | succ n hK7 =>
    intro v0 v1 x2 x3 σ H locs ls h_v0 h_v1 hH hT hS hl hF
    replace hF : G_Up_countKnown_7 S.2.2 Q (L_Up_countKnown_7 S.2.2 Q n) v0 v1 x2 x3 σ := hF
    unfold G_Up_countKnown_7 at hF
    refine lv_iload_n hx hb d_Up_countKnown_7 rfl (lv_at hl 3 rfl) ?_
    refine lv_aload_n hx hb d_Up_countKnown_8 rfl (lv_at hl 0 rfl) ?_
    refine rs_getI C hH h_v0 fk_10_5 tw_127 d_Up_countKnown_9 ?_
    refine lv_icmp_ge hx hb d_Up_countKnown_12 (tgt := 63) rfl (fun hc => ?_) (fun hc => ?_)
    · replace hF := hF.1 hc
      refine lv_iload_n hx hb d_Up_countKnown_63 rfl (lv_at hl 2 rfl) ?_
      exact rs_iret C hH hT hS hF d_Up_countKnown_64
    · replace hF := hF.2 hc
      refine lv_aload_n hx hb d_Up_countKnown_15 rfl (lv_at hl 0 rfl) ?_
      refine lv_iload_n hx hb d_Up_countKnown_16 rfl (lv_at hl 3 rfl) ?_
      refine rs_ci (rs_runV C hH hT hl (J_Up_announcedAt l h_v0 hF) rc_Up_announcedAt tw_774 tw_775 tw_776 h_v0 ⟨rfl, by decide, by decide⟩ rfl ⟨⟨rfl, rfl⟩, by decide, by decide, by decide⟩ (Nat.le_of_ble_eq_true rfl) rfl d_Up_countKnown_17) hS (fun x52 σ51 H locs hH hT hS hF => ?_)
      refine lv_istore hx hb d_Up_countKnown_20 hl (by decide) (lv' := [(4, .int x52), (0, .ref (Bm + v0)), (1, .ref (Bm + v1)), (2, .int x2), (3, .int x3)]) rfl (fun ls hl => ?_)
      refine lv_aload_n hx hb d_Up_countKnown_22 rfl (lv_at hl 2 rfl) ?_
      refine lv_aload_n hx hb d_Up_countKnown_23 rfl (lv_at hl 1 rfl) ?_
      refine rs_getR C hH hT h_v0 fk_10_2 tw_123 d_Up_countKnown_24 (fun h53 => ?_)
      refine lv_iload hx hb d_Up_countKnown_27 (lv_at hl 0 rfl) ?_
      obtain ⟨g54, hF⟩ := hF
      refine rs_iald C hH h53 g54 d_Up_countKnown_29 ?_
      refine lv_aload_n hx hb d_Up_countKnown_30 rfl (lv_at hl 1 rfl) ?_
      refine rs_getR C hH hT h_v0 fk_10_2 tw_123 d_Up_countKnown_31 (fun h55 => ?_)
      refine lv_iload hx hb d_Up_countKnown_34 (lv_at hl 0 rfl) ?_
      refine lv_iconst hx hb d_Up_countKnown_36 ki_1 ?_
      refine lv_iadd hx hb d_Up_countKnown_37 ?_
      obtain ⟨g56, hF⟩ := hF
      refine rs_iald C hH h55 g56 d_Up_countKnown_38 ?_
      refine rs_ci (rs_runV C hH hT hl (J_Px_find l h_v1 hF) rc_Px_find tw_783 tw_662 tw_663 h_v1 ⟨rfl, by decide, by decide⟩ rfl ⟨⟨rfl, rfl⟩, by decide, by decide, by decide⟩ (Nat.le_of_ble_eq_true rfl) rfl d_Up_countKnown_39) hS (fun x58 σ57 H locs hH hT hS hF => ?_)
      refine lv_iconst hx hb d_Up_countKnown_42 ki_m1 ?_
      refine lv_icmp_ne hx hb d_Up_countKnown_43 (tgt := 57) rfl (fun hc => ?_) (fun hc => ?_)
      · replace hF := hF.1 hc
        obtain ⟨x59, ex59⟩ : ∃ z : Int32, z = x3 + (1 : Int32) := ⟨_, rfl⟩
        replace hF := hF x59 ex59
        refine lv_iinc hx hb d_Up_countKnown_57 hl (k := 4) rfl (v := x59) (by rw [ki_1, ex59]) (by decide) (lv' := [(3, .int x59), (4, .int x52), (0, .ref (Bm + v0)), (1, .ref (Bm + v1)), (2, .int x2)]) rfl (fun ls hl => ?_)
        refine lv_goto hx hb d_Up_countKnown_60 (tgt := 7) rfl ?_
        exact hK7 v0 v1 x2 x59 σ57 _ _ _ h_v0 h_v1 hH hT hS (lv_sub hl [2, 3, 4, 0] rfl) hF
      · replace hF := hF.2 hc
        refine lv_aload_n hx hb d_Up_countKnown_46 rfl (lv_at hl 1 rfl) ?_
        refine lv_iload_n hx hb d_Up_countKnown_47 rfl (lv_at hl 4 rfl) ?_
        refine rs_ci (rs_runV C hH hT hl (J_Up_isFirstOfItsKind l h_v0 hF) rc_Up_isFirstOfItsKind tw_784 tw_786 ts_31 h_v0 ⟨rfl, by decide, by decide⟩ rfl ⟨⟨rfl, rfl⟩, by decide, by decide, by decide⟩ (Nat.le_of_ble_eq_true rfl) rfl d_Up_countKnown_48) hS (fun x60 σ59 H locs hH hT hS hF => ?_)
        refine lv_if_eq hx hb d_Up_countKnown_51 (tgt := 57) rfl (fun hc => ?_) (fun hc => ?_)
        · replace hF := hF.1 hc
          obtain ⟨x61, ex61⟩ : ∃ z : Int32, z = x3 + (1 : Int32) := ⟨_, rfl⟩
          replace hF := hF x61 ex61
          refine lv_iinc hx hb d_Up_countKnown_57 hl (k := 4) rfl (v := x61) (by rw [ki_1, ex61]) (by decide) (lv' := [(3, .int x61), (4, .int x52), (0, .ref (Bm + v0)), (1, .ref (Bm + v1)), (2, .int x2)]) rfl (fun ls hl => ?_)
          refine lv_goto hx hb d_Up_countKnown_60 (tgt := 7) rfl ?_
          exact hK7 v0 v1 x2 x61 σ59 _ _ _ h_v0 h_v1 hH hT hS (lv_sub hl [2, 3, 4, 0] rfl) hF
        · replace hF := hF.2 hc
          obtain ⟨x61, ex61⟩ : ∃ z : Int32, z = x2 + (1 : Int32) := ⟨_, rfl⟩
          replace hF := hF x61 ex61
          refine lv_iinc hx hb d_Up_countKnown_54 hl (k := 3) rfl (v := x61) (by rw [ki_1, ex61]) (by decide) (lv' := [(2, .int x61), (4, .int x52), (0, .ref (Bm + v0)), (1, .ref (Bm + v1)), (3, .int x3)]) rfl (fun ls hl => ?_)
          obtain ⟨x62, ex62⟩ : ∃ z : Int32, z = x3 + (1 : Int32) := ⟨_, rfl⟩
          replace hF := hF x62 ex62
          refine lv_iinc hx hb d_Up_countKnown_57 hl (k := 4) rfl (v := x62) (by rw [ki_1, ex62]) (by decide) (lv' := [(3, .int x62), (2, .int x61), (4, .int x52), (0, .ref (Bm + v0)), (1, .ref (Bm + v1))]) rfl (fun ls hl => ?_)
          refine lv_goto hx hb d_Up_countKnown_60 (tgt := 7) rfl ?_
          exact hK7 v0 v1 x61 x62 σ59 _ _ _ h_v0 h_v1 hH hT hS (lv_sub hl [3, 4, 1, 0] rfl) hF
abbrev y_Up_countKnown : MethodName := ({ cls := "RouteSpeaker$Update", name := "countKnown", desc := "(LRouteSpeaker$Prefixes;)I" } : Jvm.MethodName)
theorem rc_Up_countKnown : rs_Cal y_Up_countKnown prog_10_method_5_code 5 (some .int) 1 := ⟨tw_782, tw_4, by decide, by decide, by decide +kernel⟩
set_option maxRecDepth 20000 in
theorem J_Up_countKnown (l : Launch) {G : rs_G} {Bm : Nat} {S : rs_Shp} {v0 : Nat} {v1 : Nat} {σ : rs_Mem} {Q : Int32 → rs_Mem → Prop} (h_v0 : rs_Ok S 10 v0) (h_v1 : rs_Ok S 7 v1) (hF : F_Up_countKnown S.2.2 v0 v1 σ Q) :
    Met l y_Up_countKnown (rs_ws y_Up_countKnown prog_10_method_5_code 5 (some .int)) { frames := 2, cells := 0, slots := 0, locals := 45 } (rs_P G Bm S σ [.ref (Bm + v0), .ref (Bm + v1)]) (rs_Qi G Bm S Q) 0 0 (rs_A Bm) := by
  refine rs_met (own := "RouteSpeaker$Update") (by decide) rfl (Nat.le_of_ble_eq_true rfl) (fun p e s m below meth c ls C hl hH hT hS => ?_)
  replace hl : lv_has ls 5 [(0, .ref (Bm + v0)), (1, .ref (Bm + v1))] := hl
  have hx := C.1
  have hb := C.2.1
  unfold F_Up_countKnown at hF
  refine lv_aload_n hx hb d_Up_countKnown_0 rfl (lv_at hl 1 rfl) ?_
  refine rs_getI C hH h_v1 fk_7_3 tw_41 d_Up_countKnown_1 ?_
  refine lv_topi (fun x51 ex51 => ?_)
  replace hF := hF x51 ex51
  refine lv_istore_n hx hb d_Up_countKnown_4 rfl hl (by decide) (lv' := [(2, .int x51), (0, .ref (Bm + v0)), (1, .ref (Bm + v1))]) rfl (fun ls hl => ?_)
  refine lv_iconst hx hb d_Up_countKnown_5 ki_0 ?_
  refine lv_istore_n hx hb d_Up_countKnown_6 rfl hl (by decide) (lv' := [(3, .int (0 : Int32)), (2, .int x51), (0, .ref (Bm + v0)), (1, .ref (Bm + v1))]) rfl (fun ls hl => ?_)
  obtain ⟨n, hF⟩ := hF
  exact JL_Up_countKnown_7 C n v0 v1 x51 (0 : Int32) σ _ _ _ h_v0 h_v1 hH hT hS (lv_sub hl [2, 3, 1, 0] rfl) hF
/-! RouteSpeaker$Incoming.grow(ID)V -/
theorem d_In_grow_0 : decode prog_3_method_7_code 0 = .ok (.aload_n 0, 1) := by decide +kernel
theorem d_In_grow_1 : decode prog_3_method_7_code 1 = .ok (.getfield 24, 3) := by decide +kernel
theorem d_In_grow_4 : decode prog_3_method_7_code 4 = .ok (.iload_n 1, 1) := by decide +kernel
theorem d_In_grow_5 : decode prog_3_method_7_code 5 = .ok (.aload_n 0, 1) := by decide +kernel
theorem d_In_grow_6 : decode prog_3_method_7_code 6 = .ok (.getfield 24, 3) := by decide +kernel
theorem d_In_grow_9 : decode prog_3_method_7_code 9 = .ok (.iload_n 1, 1) := by decide +kernel
theorem d_In_grow_10 : decode prog_3_method_7_code 10 = .ok (.daload, 1) := by decide +kernel
theorem d_In_grow_11 : decode prog_3_method_7_code 11 = .ok (.dload_n 2, 1) := by decide +kernel
theorem d_In_grow_12 : decode prog_3_method_7_code 12 = .ok (.dadd, 1) := by decide +kernel
theorem d_In_grow_13 : decode prog_3_method_7_code 13 = .ok (.dastore, 1) := by decide +kernel
theorem d_In_grow_14 : decode prog_3_method_7_code 14 = .ok (.aload_n 0, 1) := by decide +kernel
theorem d_In_grow_15 : decode prog_3_method_7_code 15 = .ok (.getfield 17, 3) := by decide +kernel
theorem d_In_grow_18 : decode prog_3_method_7_code 18 = .ok (.iload_n 1, 1) := by decide +kernel
theorem d_In_grow_19 : decode prog_3_method_7_code 19 = .ok (.aload_n 0, 1) := by decide +kernel
theorem d_In_grow_20 : decode prog_3_method_7_code 20 = .ok (.getfield 17, 3) := by decide +kernel
theorem d_In_grow_23 : decode prog_3_method_7_code 23 = .ok (.iload_n 1, 1) := by decide +kernel
theorem d_In_grow_24 : decode prog_3_method_7_code 24 = .ok (.baload, 1) := by decide +kernel
theorem d_In_grow_25 : decode prog_3_method_7_code 25 = .ok (.ifCond .ne (16), 3) := by decide +kernel
theorem d_In_grow_28 : decode prog_3_method_7_code 28 = .ok (.aload_n 0, 1) := by decide +kernel
theorem d_In_grow_29 : decode prog_3_method_7_code 29 = .ok (.getfield 24, 3) := by decide +kernel
theorem d_In_grow_32 : decode prog_3_method_7_code 32 = .ok (.iload_n 1, 1) := by decide +kernel
theorem d_In_grow_33 : decode prog_3_method_7_code 33 = .ok (.daload, 1) := by decide +kernel
theorem d_In_grow_34 : decode prog_3_method_7_code 34 = .ok (.ldc2_w 53, 3) := by decide +kernel
theorem d_In_grow_37 : decode prog_3_method_7_code 37 = .ok (.dcmp .l, 1) := by decide +kernel
theorem d_In_grow_38 : decode prog_3_method_7_code 38 = .ok (.ifCond .le (7), 3) := by decide +kernel
theorem d_In_grow_41 : decode prog_3_method_7_code 41 = .ok (.iconst 1, 1) := by decide +kernel
theorem d_In_grow_42 : decode prog_3_method_7_code 42 = .ok (.goto (4), 3) := by decide +kernel
theorem d_In_grow_45 : decode prog_3_method_7_code 45 = .ok (.iconst 0, 1) := by decide +kernel
theorem d_In_grow_46 : decode prog_3_method_7_code 46 = .ok (.bastore, 1) := by decide +kernel
theorem d_In_grow_47 : decode prog_3_method_7_code 47 = .ok (.return_, 1) := by decide +kernel
def F_In_grow (N : Nat → Nat) (v0 : Nat) (x1 : Int32) (x2 : UInt64) (σ : rs_Mem) (Q : rs_Mem → Prop) : Prop :=
  (vp_in x1 (N (rs_R σ v0 3)) ∧ (vf_n64 (FP.dadd (rs_D σ (rs_R σ v0 3) x1.toNatClampNeg) x2) ∧ (vp_in x1 (N (rs_R σ v0 3)) ∧ ∀ σ56 : rs_Mem, σ56 = rs_sD σ (rs_R σ v0 3) x1.toNatClampNeg (FP.dadd (rs_D σ (rs_R σ v0 3) x1.toNatClampNeg) x2) → (vp_in x1 (N (rs_R σ56 v0 1)) ∧ ((¬ ((rs_I σ56 (rs_R σ56 v0 1) x1.toNatClampNeg) = 0) → (vp_in x1 (N (rs_R σ56 v0 1)) ∧ ∀ σ61 : rs_Mem, σ61 = rs_sI σ56 (rs_R σ56 v0 1) x1.toNatClampNeg (1 : Int32) → (Q σ61))) ∧ ((rs_I σ56 (rs_R σ56 v0 1) x1.toNatClampNeg) = 0 → (vp_in x1 (N (rs_R σ56 v0 3)) ∧ (((Op.cmpValue (FP.dcmp (rs_D σ56 (rs_R σ56 v0 3) x1.toNatClampNeg) (4656510908468559872 : UInt64)) .l) ≤ 0 → (vp_in x1 (N (rs_R σ56 v0 1)) ∧ ∀ σ63 : rs_Mem, σ63 = rs_sI σ56 (rs_R σ56 v0 1) x1.toNatClampNeg (0 : Int32) → (Q σ63))) ∧ (¬ ((Op.cmpValue (FP.dcmp (rs_D σ56 (rs_R σ56 v0 3) x1.toNatClampNeg) (4656510908468559872 : UInt64)) .l) ≤ 0) → (vp_in x1 (N (rs_R σ56 v0 1)) ∧ ∀ σ63 : rs_Mem, σ63 = rs_sI σ56 (rs_R σ56 v0 1) x1.toNatClampNeg (1 : Int32) → (Q σ63)))))))))))
abbrev y_In_grow : MethodName := ({ cls := "RouteSpeaker$Incoming", name := "grow", desc := "(ID)V" } : Jvm.MethodName)
theorem rc_In_grow : rs_Cal y_In_grow prog_3_method_7_code 4 none 2 := ⟨tw_803, tw_10, by decide, by decide, by decide +kernel⟩
set_option maxRecDepth 20000 in
theorem J_In_grow (l : Launch) {G : rs_G} {Bm : Nat} {S : rs_Shp} {v0 : Nat} {x1 : Int32} {x2 : UInt64} {σ : rs_Mem} {Q : rs_Mem → Prop} (h_v0 : rs_Ok S 3 v0) (hF : F_In_grow S.2.2 v0 x1 x2 σ Q) :
    Met l y_In_grow (rs_ws y_In_grow prog_3_method_7_code 4 none) { frames := 0, cells := 0, slots := 0, locals := 0 } (rs_P G Bm S σ [.ref (Bm + v0), .int x1, .double x2]) (rs_Qv G Bm S Q) 0 0 (rs_A Bm) := by
  refine rs_met (own := "RouteSpeaker$Incoming") (by decide) rfl (Nat.le_of_ble_eq_true rfl) (fun p e s m below meth c ls C hl hH hT hS => ?_)
  replace hl : lv_has ls 4 [(0, .ref (Bm + v0)), (1, .int x1), (2, .double x2)] := hl
  have hx := C.1
  have hb := C.2.1
  unfold F_In_grow at hF
  refine lv_aload_n hx hb d_In_grow_0 rfl (lv_at hl 0 rfl) ?_
  refine rs_getR C hH hT h_v0 fk_3_3 tw_243 d_In_grow_1 (fun h51 => ?_)
  refine lv_iload_n hx hb d_In_grow_4 rfl (lv_at hl 1 rfl) ?_
  refine lv_aload_n hx hb d_In_grow_5 rfl (lv_at hl 0 rfl) ?_
  refine rs_getR C hH hT h_v0 fk_3_3 tw_243 d_In_grow_6 (fun h52 => ?_)
  refine lv_iload_n hx hb d_In_grow_9 rfl (lv_at hl 1 rfl) ?_
  obtain ⟨g53, hF⟩ := hF
  refine rs_dald C hH h52 g53 d_In_grow_10 ?_
  refine lv_dload_n hx hb d_In_grow_11 rfl (lv_at hl 2 rfl) ?_
  obtain ⟨g54, hF⟩ := hF
  refine lv_dadd hx hb d_In_grow_12 g54 ?_
  obtain ⟨g55, hF⟩ := hF
  refine rs_dast C hH hT hS h51 g55 d_In_grow_13 (fun σ56 H locs eσ56 hH hT hS => ?_)
  replace hF := hF σ56 eσ56
  refine lv_aload_n hx hb d_In_grow_14 rfl (lv_at hl 0 rfl) ?_
  refine rs_getR C hH hT h_v0 fk_3_1 tw_239 d_In_grow_15 (fun h57 => ?_)
  refine lv_iload_n hx hb d_In_grow_18 rfl (lv_at hl 1 rfl) ?_
  refine lv_aload_n hx hb d_In_grow_19 rfl (lv_at hl 0 rfl) ?_
  refine rs_getR C hH hT h_v0 fk_3_1 tw_239 d_In_grow_20 (fun h58 => ?_)
  refine lv_iload_n hx hb d_In_grow_23 rfl (lv_at hl 1 rfl) ?_
  obtain ⟨g59, hF⟩ := hF
  refine rs_zald C hH h58 g59 d_In_grow_24 ?_
  refine lv_if_ne hx hb d_In_grow_25 (tgt := 41) rfl (fun hc => ?_) (fun hc => ?_)
  · replace hF := hF.1 hc
    refine lv_iconst hx hb d_In_grow_41 ki_1 ?_
    refine lv_goto hx hb d_In_grow_42 (tgt := 46) rfl ?_
    obtain ⟨g60, hF⟩ := hF
    refine rs_zast C hH hT hS (by decide) h57 g60 d_In_grow_46 (fun σ61 H locs eσ61 hH hT hS => ?_)
    replace hF := hF σ61 eσ61
    exact rs_vret C hH hT hS hF d_In_grow_47
  · replace hF := hF.2 hc
    refine lv_aload_n hx hb d_In_grow_28 rfl (lv_at hl 0 rfl) ?_
    refine rs_getR C hH hT h_v0 fk_3_3 tw_243 d_In_grow_29 (fun h60 => ?_)
    refine lv_iload_n hx hb d_In_grow_32 rfl (lv_at hl 1 rfl) ?_
    obtain ⟨g61, hF⟩ := hF
    refine rs_dald C hH h60 g61 d_In_grow_33 ?_
    refine lv_ldc2d hx hb C.2.2.2.2.1 (C.2.2.2.2.2.1 _ tw_804) d_In_grow_34 ?_
    refine lv_dcmp hx hb d_In_grow_37 ?_
    refine lv_if_le hx hb d_In_grow_38 (tgt := 45) rfl (fun hc => ?_) (fun hc => ?_)
    · replace hF := hF.1 hc
      refine lv_iconst hx hb d_In_grow_45 ki_0 ?_
      obtain ⟨g62, hF⟩ := hF
      refine rs_zast C hH hT hS (by decide) h57 g62 d_In_grow_46 (fun σ63 H locs eσ63 hH hT hS => ?_)
      replace hF := hF σ63 eσ63
      exact rs_vret C hH hT hS hF d_In_grow_47
    · replace hF := hF.2 hc
      refine lv_iconst hx hb d_In_grow_41 ki_1 ?_
      refine lv_goto hx hb d_In_grow_42 (tgt := 46) rfl ?_
      obtain ⟨g62, hF⟩ := hF
      refine rs_zast C hH hT hS (by decide) h57 g62 d_In_grow_46 (fun σ63 H locs eσ63 hH hT hS => ?_)
      replace hF := hF σ63 eσ63
      exact rs_vret C hH hT hS hF d_In_grow_47
/-! RouteSpeaker$Incoming.withdraw(I)V -/
theorem d_In_withdraw_0 : decode prog_3_method_4_code 0 = .ok (.aload_n 0, 1) := by decide +kernel
theorem d_In_withdraw_1 : decode prog_3_method_4_code 1 = .ok (.iload_n 1, 1) := by decide +kernel
theorem d_In_withdraw_2 : decode prog_3_method_4_code 2 = .ok (.invokevirtual 29, 3) := by decide +kernel
theorem d_In_withdraw_5 : decode prog_3_method_4_code 5 = .ok (.ifCond .eq (18), 3) := by decide +kernel
theorem d_In_withdraw_8 : decode prog_3_method_4_code 8 = .ok (.aload_n 0, 1) := by decide +kernel
theorem d_In_withdraw_9 : decode prog_3_method_4_code 9 = .ok (.getfield 21, 3) := by decide +kernel
theorem d_In_withdraw_12 : decode prog_3_method_4_code 12 = .ok (.iload_n 1, 1) := by decide +kernel
theorem d_In_withdraw_13 : decode prog_3_method_4_code 13 = .ok (.iconst 0, 1) := by decide +kernel
theorem d_In_withdraw_14 : decode prog_3_method_4_code 14 = .ok (.bastore, 1) := by decide +kernel
theorem d_In_withdraw_15 : decode prog_3_method_4_code 15 = .ok (.aload_n 0, 1) := by decide +kernel
theorem d_In_withdraw_16 : decode prog_3_method_4_code 16 = .ok (.iload_n 1, 1) := by decide +kernel
theorem d_In_withdraw_17 : decode prog_3_method_4_code 17 = .ok (.ldc2_w 33, 3) := by decide +kernel
theorem d_In_withdraw_20 : decode prog_3_method_4_code 20 = .ok (.invokevirtual 35, 3) := by decide +kernel
theorem d_In_withdraw_23 : decode prog_3_method_4_code 23 = .ok (.return_, 1) := by decide +kernel
def F_In_withdraw (N : Nat → Nat) (v0 : Nat) (x1 : Int32) (σ : rs_Mem) (Q : rs_Mem → Prop) : Prop :=
  (F_In_has N v0 x1 σ (fun x52 σ51 => ((x52 = 0 → (Q σ51)) ∧ (¬ (x52 = 0) → (vp_in x1 (N (rs_R σ51 v0 2)) ∧ ∀ σ55 : rs_Mem, σ55 = rs_sI σ51 (rs_R σ51 v0 2) x1.toNatClampNeg (0 : Int32) → (F_In_grow N v0 x1 (4652007308841189376 : UInt64) σ55 (fun σ56 => (Q σ56))))))))
abbrev y_In_withdraw : MethodName := ({ cls := "RouteSpeaker$Incoming", name := "withdraw", desc := "(I)V" } : Jvm.MethodName)
theorem rc_In_withdraw : rs_Cal y_In_withdraw prog_3_method_4_code 2 none 1 := ⟨tw_797, tw_10, by decide, by decide, by decide +kernel⟩
set_option maxRecDepth 20000 in
theorem J_In_withdraw (l : Launch) {G : rs_G} {Bm : Nat} {S : rs_Shp} {v0 : Nat} {x1 : Int32} {σ : rs_Mem} {Q : rs_Mem → Prop} (h_v0 : rs_Ok S 3 v0) (hF : F_In_withdraw S.2.2 v0 x1 σ Q) :
    Met l y_In_withdraw (rs_ws y_In_withdraw prog_3_method_4_code 2 none) { frames := 1, cells := 0, slots := 0, locals := 23 } (rs_P G Bm S σ [.ref (Bm + v0), .int x1]) (rs_Qv G Bm S Q) 0 0 (rs_A Bm) := by
  refine rs_met (own := "RouteSpeaker$Incoming") (by decide) rfl (Nat.le_of_ble_eq_true rfl) (fun p e s m below meth c ls C hl hH hT hS => ?_)
  replace hl : lv_has ls 2 [(0, .ref (Bm + v0)), (1, .int x1)] := hl
  have hx := C.1
  have hb := C.2.1
  unfold F_In_withdraw at hF
  refine lv_aload_n hx hb d_In_withdraw_0 rfl (lv_at hl 0 rfl) ?_
  refine lv_iload_n hx hb d_In_withdraw_1 rfl (lv_at hl 1 rfl) ?_
  refine rs_ci (rs_runV C hH hT hl (J_In_has l h_v0 hF) rc_In_has tw_798 tw_390 tw_391 h_v0 ⟨rfl, by decide, by decide⟩ rfl ⟨⟨rfl, rfl⟩, by decide, by decide, by decide⟩ (Nat.le_of_ble_eq_true rfl) rfl d_In_withdraw_2) hS (fun x52 σ51 H locs hH hT hS hF => ?_)
  refine lv_if_eq hx hb d_In_withdraw_5 (tgt := 23) rfl (fun hc => ?_) (fun hc => ?_)
  · replace hF := hF.1 hc
    exact rs_vret C hH hT hS hF d_In_withdraw_23
  · replace hF := hF.2 hc
    refine lv_aload_n hx hb d_In_withdraw_8 rfl (lv_at hl 0 rfl) ?_
    refine rs_getR C hH hT h_v0 fk_3_2 tw_241 d_In_withdraw_9 (fun h53 => ?_)
    refine lv_iload_n hx hb d_In_withdraw_12 rfl (lv_at hl 1 rfl) ?_
    refine lv_iconst hx hb d_In_withdraw_13 ki_0 ?_
    obtain ⟨g54, hF⟩ := hF
    refine rs_zast C hH hT hS (by decide) h53 g54 d_In_withdraw_14 (fun σ55 H locs eσ55 hH hT hS => ?_)
    replace hF := hF σ55 eσ55
    refine lv_aload_n hx hb d_In_withdraw_15 rfl (lv_at hl 0 rfl) ?_
    refine lv_iload_n hx hb d_In_withdraw_16 rfl (lv_at hl 1 rfl) ?_
    refine lv_ldc2d hx hb C.2.2.2.2.1 (C.2.2.2.2.2.1 _ tw_799) d_In_withdraw_17 ?_
    refine rs_cv (rs_runV C hH hT hl (J_In_grow l h_v0 hF) rc_In_grow tw_800 tw_802 ts_33 h_v0 ⟨rfl, by decide, by decide⟩ rfl ⟨⟨rfl, rfl⟩, by decide, by decide, by decide⟩ (Nat.le_of_ble_eq_true rfl) rfl d_In_withdraw_20) hS (fun σ56 H locs hH hT hS hF => ?_)
    exact rs_vret C hH hT hS hF d_In_withdraw_23
/-! RouteSpeaker$Route.startSame([I[II)Z -/
theorem d_Ro_startSame_0 : decode prog_8_method_11_code 0 = .ok (.iconst 0, 1) := by decide +kernel
theorem d_Ro_startSame_1 : decode prog_8_method_11_code 1 = .ok (.istore_n 3, 1) := by decide +kernel
theorem d_Ro_startSame_2 : decode prog_8_method_11_code 2 = .ok (.iload_n 3, 1) := by decide +kernel
theorem d_Ro_startSame_3 : decode prog_8_method_11_code 3 = .ok (.iload_n 2, 1) := by decide +kernel
theorem d_Ro_startSame_4 : decode prog_8_method_11_code 4 = .ok (.if_icmp .ge (20), 3) := by decide +kernel
theorem d_Ro_startSame_7 : decode prog_8_method_11_code 7 = .ok (.aload_n 0, 1) := by decide +kernel
theorem d_Ro_startSame_8 : decode prog_8_method_11_code 8 = .ok (.iload_n 3, 1) := by decide +kernel
theorem d_Ro_startSame_9 : decode prog_8_method_11_code 9 = .ok (.iaload, 1) := by decide +kernel
theorem d_Ro_startSame_10 : decode prog_8_method_11_code 10 = .ok (.aload_n 1, 1) := by decide +kernel
theorem d_Ro_startSame_11 : decode prog_8_method_11_code 11 = .ok (.iload_n 3, 1) := by decide +kernel
theorem d_Ro_startSame_12 : decode prog_8_method_11_code 12 = .ok (.iaload, 1) := by decide +kernel
theorem d_Ro_startSame_13 : decode prog_8_method_11_code 13 = .ok (.if_icmp .eq (5), 3) := by decide +kernel
theorem d_Ro_startSame_16 : decode prog_8_method_11_code 16 = .ok (.iconst 0, 1) := by decide +kernel
theorem d_Ro_startSame_17 : decode prog_8_method_11_code 17 = .ok (.ireturn, 1) := by decide +kernel
theorem d_Ro_startSame_18 : decode prog_8_method_11_code 18 = .ok (.iinc 3 (1), 3) := by decide +kernel
theorem d_Ro_startSame_21 : decode prog_8_method_11_code 21 = .ok (.goto (-19), 3) := by decide +kernel
theorem d_Ro_startSame_24 : decode prog_8_method_11_code 24 = .ok (.iconst 1, 1) := by decide +kernel
theorem d_Ro_startSame_25 : decode prog_8_method_11_code 25 = .ok (.ireturn, 1) := by decide +kernel
def G_Ro_startSame_2 (N : Nat → Nat) (Q : Int32 → rs_Mem → Prop) (K2 : Nat → Nat → Int32 → Int32 → rs_Mem → Prop) (v0 : Nat) (v1 : Nat) (x2 : Int32) (x3 : Int32) (σ : rs_Mem) : Prop :=
  ((x2 ≤ x3 → (Q (1 : Int32) σ)) ∧ (¬ (x2 ≤ x3) → (vp_in x3 (N v0) ∧ (vp_in x3 (N v1) ∧ (((rs_I σ v0 x3.toNatClampNeg) = (rs_I σ v1 x3.toNatClampNeg) → (∀ x53 : Int32, x53 = x3 + (1 : Int32) → (K2 v0 v1 x2 x53 σ))) ∧ (¬ ((rs_I σ v0 x3.toNatClampNeg) = (rs_I σ v1 x3.toNatClampNeg)) → (Q (0 : Int32) σ)))))))
noncomputable def L_Ro_startSame_2 (N : Nat → Nat) (Q : Int32 → rs_Mem → Prop) (n : Nat) : Nat → Nat → Int32 → Int32 → rs_Mem → Prop := Nat.rec (motive := fun _ => Nat → Nat → Int32 → Int32 → rs_Mem → Prop) (fun _ _ _ _ _ => False) (fun _ K => G_Ro_startSame_2 N Q K) n
def F_Ro_startSame (N : Nat → Nat) (v0 : Nat) (v1 : Nat) (x2 : Int32) (σ : rs_Mem) (Q : Int32 → rs_Mem → Prop) : Prop :=
  (∃ n : Nat, L_Ro_startSame_2 N Q n v0 v1 x2 (0 : Int32) σ)
set_option maxRecDepth 20000 in
theorem JL_Ro_startSame_2 {p : Program} {l : Launch} {e : Env} {s : State} {m : MethodId} {args : Array Value} {below : List Frame} {meth : Method} {c : Code} {G : rs_G} {Bm : Nat} {S : rs_Shp} {Q : Int32 → rs_Mem → Prop} (C : rs_C "RouteSpeaker$Route" prog_8_method_11_code 4 (some .boolean) G p s m meth c args) : ∀ n : Nat, ∀ (v0 : Nat) (v1 : Nat) (x2 : Int32) (x3 : Int32) (σ : rs_Mem) (H : Heap) (locs : List Loc) (ls : Array Slot), rs_Ok S 20 v0 → rs_Ok S 20 v1 → rs_H G Bm S σ H → rs_T S σ → va_S (rs_A Bm) s.heap H locs → lv_has ls 4 [(0, .ref (Bm + v0)), (1, .ref (Bm + v1)), (2, .int x2), (3, .int x3)] → (L_Ro_startSame_2 S.2.2 Q n) v0 v1 x2 x3 σ → W p l e { frames := 0, cells := 0, slots := 0, locals := 0 } s m args below meth c H locs 0 0 (MQ below (rs_Qi G Bm S Q) args s 0 0 (rs_A Bm)) (F0 m 2 ls []) := by
  have hx := C.1
  have hb := C.2.1
  intro n
  induction n with
  | zero => intros; rename_i hF; exact hF.elim
  | succ n hK2 =>
    intro v0 v1 x2 x3 σ H locs ls h_v0 h_v1 hH hT hS hl hF
    replace hF : G_Ro_startSame_2 S.2.2 Q (L_Ro_startSame_2 S.2.2 Q n) v0 v1 x2 x3 σ := hF
    unfold G_Ro_startSame_2 at hF
    refine lv_iload_n hx hb d_Ro_startSame_2 rfl (lv_at hl 3 rfl) ?_
    refine lv_iload_n hx hb d_Ro_startSame_3 rfl (lv_at hl 2 rfl) ?_
    refine lv_icmp_ge hx hb d_Ro_startSame_4 (tgt := 24) rfl (fun hc => ?_) (fun hc => ?_)
    · replace hF := hF.1 hc
      refine lv_iconst hx hb d_Ro_startSame_24 ki_1 ?_
      exact rs_zret C hH hT hS (by decide) hF d_Ro_startSame_25
    · replace hF := hF.2 hc
      refine lv_aload_n hx hb d_Ro_startSame_7 rfl (lv_at hl 0 rfl) ?_
      refine lv_iload_n hx hb d_Ro_startSame_8 rfl (lv_at hl 3 rfl) ?_
      obtain ⟨g51, hF⟩ := hF
      refine rs_iald C hH h_v0 g51 d_Ro_startSame_9 ?_
      refine lv_aload_n hx hb d_Ro_startSame_10 rfl (lv_at hl 1 rfl) ?_
      refine lv_iload_n hx hb d_Ro_startSame_11 rfl (lv_at hl 3 rfl) ?_
      obtain ⟨g52, hF⟩ := hF
      refine rs_iald C hH h_v1 g52 d_Ro_startSame_12 ?_
      refine lv_icmp_eq hx hb d_Ro_startSame_13 (tgt := 18) rfl (fun hc => ?_) (fun hc => ?_)
      · replace hF := hF.1 hc
        obtain ⟨x53, ex53⟩ : ∃ z : Int32, z = x3 + (1 : Int32) := ⟨_, rfl⟩
        replace hF := hF x53 ex53
        refine lv_iinc hx hb d_Ro_startSame_18 hl (k := 3) rfl (v := x53) (by rw [ki_1, ex53]) (by decide) (lv' := [(3, .int x53), (0, .ref (Bm + v0)), (1, .ref (Bm + v1)), (2, .int x2)]) rfl (fun ls hl => ?_)
        refine lv_goto hx hb d_Ro_startSame_21 (tgt := 2) rfl ?_
        exact hK2 v0 v1 x2 x53 σ _ _ _ h_v0 h_v1 hH hT hS (lv_sub hl [1, 2, 3, 0] rfl) hF
      · replace hF := hF.2 hc
        refine lv_iconst hx hb d_Ro_startSame_16 ki_0 ?_
        exact rs_zret C hH hT hS (by decide) hF d_Ro_startSame_17
abbrev y_Ro_startSame : MethodName := ({ cls := "RouteSpeaker$Route", name := "startSame", desc := "([I[II)Z" } : Jvm.MethodName)
theorem rc_Ro_startSame : rs_Cal y_Ro_startSame prog_8_method_11_code 4 (some .boolean) 3 := ⟨tw_817, tw_3, by decide, by decide, by decide +kernel⟩
set_option maxRecDepth 20000 in
theorem J_Ro_startSame (l : Launch) {G : rs_G} {Bm : Nat} {S : rs_Shp} {v0 : Nat} {v1 : Nat} {x2 : Int32} {σ : rs_Mem} {Q : Int32 → rs_Mem → Prop} (h_v0 : rs_Ok S 20 v0) (h_v1 : rs_Ok S 20 v1) (hF : F_Ro_startSame S.2.2 v0 v1 x2 σ Q) :
    Met l y_Ro_startSame (rs_ws y_Ro_startSame prog_8_method_11_code 4 (some .boolean)) { frames := 0, cells := 0, slots := 0, locals := 0 } (rs_P G Bm S σ [.ref (Bm + v0), .ref (Bm + v1), .int x2]) (rs_Qi G Bm S Q) 0 0 (rs_A Bm) := by
  refine rs_met (own := "RouteSpeaker$Route") (by decide) rfl (Nat.le_of_ble_eq_true rfl) (fun p e s m below meth c ls C hl hH hT hS => ?_)
  replace hl : lv_has ls 4 [(0, .ref (Bm + v0)), (1, .ref (Bm + v1)), (2, .int x2)] := hl
  have hx := C.1
  have hb := C.2.1
  unfold F_Ro_startSame at hF
  refine lv_iconst hx hb d_Ro_startSame_0 ki_0 ?_
  refine lv_istore_n hx hb d_Ro_startSame_1 rfl hl (by decide) (lv' := [(3, .int (0 : Int32)), (0, .ref (Bm + v0)), (1, .ref (Bm + v1)), (2, .int x2)]) rfl (fun ls hl => ?_)
  obtain ⟨n, hF⟩ := hF
  exact JL_Ro_startSame_2 C n v0 v1 x2 (0 : Int32) σ _ _ _ h_v0 h_v1 hH hT hS (lv_sub hl [1, 2, 3, 0] rfl) hF
/-! RouteSpeaker$Route.isSameAs(LRouteSpeaker$Route;)Z -/
theorem d_Ro_isSameAs_0 : decode prog_8_method_5_code 0 = .ok (.aload_n 0, 1) := by decide +kernel
theorem d_Ro_isSameAs_1 : decode prog_8_method_5_code 1 = .ok (.getfield 25, 3) := by decide +kernel
theorem d_Ro_isSameAs_4 : decode prog_8_method_5_code 4 = .ok (.aload_n 1, 1) := by decide +kernel
theorem d_Ro_isSameAs_5 : decode prog_8_method_5_code 5 = .ok (.getfield 25, 3) := by decide +kernel
theorem d_Ro_isSameAs_8 : decode prog_8_method_5_code 8 = .ok (.if_icmp .ne (109), 3) := by decide +kernel
theorem d_Ro_isSameAs_11 : decode prog_8_method_5_code 11 = .ok (.aload_n 0, 1) := by decide +kernel
theorem d_Ro_isSameAs_12 : decode prog_8_method_5_code 12 = .ok (.getfield 31, 3) := by decide +kernel
theorem d_Ro_isSameAs_15 : decode prog_8_method_5_code 15 = .ok (.aload_n 1, 1) := by decide +kernel
theorem d_Ro_isSameAs_16 : decode prog_8_method_5_code 16 = .ok (.getfield 31, 3) := by decide +kernel
theorem d_Ro_isSameAs_19 : decode prog_8_method_5_code 19 = .ok (.if_icmp .ne (98), 3) := by decide +kernel
theorem d_Ro_isSameAs_22 : decode prog_8_method_5_code 22 = .ok (.aload_n 0, 1) := by decide +kernel
theorem d_Ro_isSameAs_23 : decode prog_8_method_5_code 23 = .ok (.getfield 15, 3) := by decide +kernel
theorem d_Ro_isSameAs_26 : decode prog_8_method_5_code 26 = .ok (.aload_n 1, 1) := by decide +kernel
theorem d_Ro_isSameAs_27 : decode prog_8_method_5_code 27 = .ok (.getfield 15, 3) := by decide +kernel
theorem d_Ro_isSameAs_30 : decode prog_8_method_5_code 30 = .ok (.if_icmp .ne (87), 3) := by decide +kernel
theorem d_Ro_isSameAs_33 : decode prog_8_method_5_code 33 = .ok (.aload_n 0, 1) := by decide +kernel
theorem d_Ro_isSameAs_34 : decode prog_8_method_5_code 34 = .ok (.getfield 19, 3) := by decide +kernel
theorem d_Ro_isSameAs_37 : decode prog_8_method_5_code 37 = .ok (.aload_n 1, 1) := by decide +kernel
theorem d_Ro_isSameAs_38 : decode prog_8_method_5_code 38 = .ok (.getfield 19, 3) := by decide +kernel
theorem d_Ro_isSameAs_41 : decode prog_8_method_5_code 41 = .ok (.if_icmp .ne (76), 3) := by decide +kernel
theorem d_Ro_isSameAs_44 : decode prog_8_method_5_code 44 = .ok (.aload_n 0, 1) := by decide +kernel
theorem d_Ro_isSameAs_45 : decode prog_8_method_5_code 45 = .ok (.getfield 37, 3) := by decide +kernel
theorem d_Ro_isSameAs_48 : decode prog_8_method_5_code 48 = .ok (.aload_n 1, 1) := by decide +kernel
theorem d_Ro_isSameAs_49 : decode prog_8_method_5_code 49 = .ok (.getfield 37, 3) := by decide +kernel
theorem d_Ro_isSameAs_52 : decode prog_8_method_5_code 52 = .ok (.if_icmp .ne (65), 3) := by decide +kernel
theorem d_Ro_isSameAs_55 : decode prog_8_method_5_code 55 = .ok (.aload_n 0, 1) := by decide +kernel
theorem d_Ro_isSameAs_56 : decode prog_8_method_5_code 56 = .ok (.getfield 28, 3) := by decide +kernel
theorem d_Ro_isSameAs_59 : decode prog_8_method_5_code 59 = .ok (.aload_n 1, 1) := by decide +kernel
theorem d_Ro_isSameAs_60 : decode prog_8_method_5_code 60 = .ok (.getfield 28, 3) := by decide +kernel
theorem d_Ro_isSameAs_63 : decode prog_8_method_5_code 63 = .ok (.if_icmp .ne (54), 3) := by decide +kernel
theorem d_Ro_isSameAs_66 : decode prog_8_method_5_code 66 = .ok (.aload_n 0, 1) := by decide +kernel
theorem d_Ro_isSameAs_67 : decode prog_8_method_5_code 67 = .ok (.getfield 9, 3) := by decide +kernel
theorem d_Ro_isSameAs_70 : decode prog_8_method_5_code 70 = .ok (.aload_n 1, 1) := by decide +kernel
theorem d_Ro_isSameAs_71 : decode prog_8_method_5_code 71 = .ok (.getfield 9, 3) := by decide +kernel
theorem d_Ro_isSameAs_74 : decode prog_8_method_5_code 74 = .ok (.aload_n 0, 1) := by decide +kernel
theorem d_Ro_isSameAs_75 : decode prog_8_method_5_code 75 = .ok (.getfield 28, 3) := by decide +kernel
theorem d_Ro_isSameAs_78 : decode prog_8_method_5_code 78 = .ok (.invokestatic 49, 3) := by decide +kernel
theorem d_Ro_isSameAs_81 : decode prog_8_method_5_code 81 = .ok (.ifCond .eq (36), 3) := by decide +kernel
theorem d_Ro_isSameAs_84 : decode prog_8_method_5_code 84 = .ok (.aload_n 0, 1) := by decide +kernel
theorem d_Ro_isSameAs_85 : decode prog_8_method_5_code 85 = .ok (.getfield 40, 3) := by decide +kernel
theorem d_Ro_isSameAs_88 : decode prog_8_method_5_code 88 = .ok (.aload_n 1, 1) := by decide +kernel
theorem d_Ro_isSameAs_89 : decode prog_8_method_5_code 89 = .ok (.getfield 40, 3) := by decide +kernel
theorem d_Ro_isSameAs_92 : decode prog_8_method_5_code 92 = .ok (.if_icmp .ne (25), 3) := by decide +kernel
theorem d_Ro_isSameAs_95 : decode prog_8_method_5_code 95 = .ok (.aload_n 0, 1) := by decide +kernel
theorem d_Ro_isSameAs_96 : decode prog_8_method_5_code 96 = .ok (.getfield 22, 3) := by decide +kernel
theorem d_Ro_isSameAs_99 : decode prog_8_method_5_code 99 = .ok (.aload_n 1, 1) := by decide +kernel
theorem d_Ro_isSameAs_100 : decode prog_8_method_5_code 100 = .ok (.getfield 22, 3) := by decide +kernel
theorem d_Ro_isSameAs_103 : decode prog_8_method_5_code 103 = .ok (.aload_n 0, 1) := by decide +kernel
theorem d_Ro_isSameAs_104 : decode prog_8_method_5_code 104 = .ok (.getfield 40, 3) := by decide +kernel
theorem d_Ro_isSameAs_107 : decode prog_8_method_5_code 107 = .ok (.invokestatic 49, 3) := by decide +kernel
theorem d_Ro_isSameAs_110 : decode prog_8_method_5_code 110 = .ok (.ifCond .eq (7), 3) := by decide +kernel
theorem d_Ro_isSameAs_113 : decode prog_8_method_5_code 113 = .ok (.iconst 1, 1) := by decide +kernel
theorem d_Ro_isSameAs_114 : decode prog_8_method_5_code 114 = .ok (.goto (4), 3) := by decide +kernel
theorem d_Ro_isSameAs_117 : decode prog_8_method_5_code 117 = .ok (.iconst 0, 1) := by decide +kernel
theorem d_Ro_isSameAs_118 : decode prog_8_method_5_code 118 = .ok (.ireturn, 1) := by decide +kernel
def F_Ro_isSameAs (N : Nat → Nat) (v0 : Nat) (v1 : Nat) (σ : rs_Mem) (Q : Int32 → rs_Mem → Prop) : Prop :=
  ((¬ ((rs_I σ v0 0) = (rs_I σ v1 0)) → (Q (0 : Int32) σ)) ∧ ((rs_I σ v0 0) = (rs_I σ v1 0) → ((¬ ((rs_I σ v0 3) = (rs_I σ v1 3)) → (Q (0 : Int32) σ)) ∧ ((rs_I σ v0 3) = (rs_I σ v1 3) → ((¬ ((rs_I σ v0 4) = (rs_I σ v1 4)) → (Q (0 : Int32) σ)) ∧ ((rs_I σ v0 4) = (rs_I σ v1 4) → ((¬ ((rs_I σ v0 5) = (rs_I σ v1 5)) → (Q (0 : Int32) σ)) ∧ ((rs_I σ v0 5) = (rs_I σ v1 5) → ((¬ ((rs_I σ v0 6) = (rs_I σ v1 6)) → (Q (0 : Int32) σ)) ∧ ((rs_I σ v0 6) = (rs_I σ v1 6) → ((¬ ((rs_I σ v0 1) = (rs_I σ v1 1)) → (Q (0 : Int32) σ)) ∧ ((rs_I σ v0 1) = (rs_I σ v1 1) → (F_Ro_startSame N (rs_R σ v0 2) (rs_R σ v1 2) (rs_I σ v0 1) σ (fun x54 σ53 => ((x54 = 0 → (Q (0 : Int32) σ53)) ∧ (¬ (x54 = 0) → ((¬ ((rs_I σ53 v0 7) = (rs_I σ53 v1 7)) → (Q (0 : Int32) σ53)) ∧ ((rs_I σ53 v0 7) = (rs_I σ53 v1 7) → (F_Ro_startSame N (rs_R σ53 v0 8) (rs_R σ53 v1 8) (rs_I σ53 v0 7) σ53 (fun x58 σ57 => ((x58 = 0 → (Q (0 : Int32) σ57)) ∧ (¬ (x58 = 0) → (Q (1 : Int32) σ57)))))))))))))))))))))))
abbrev y_Ro_isSameAs : MethodName := ({ cls := "RouteSpeaker$Route", name := "isSameAs", desc := "(LRouteSpeaker$Route;)Z" } : Jvm.MethodName)
theorem rc_Ro_isSameAs : rs_Cal y_Ro_isSameAs prog_8_method_5_code 2 (some .boolean) 1 := ⟨tw_814, tw_3, by decide, by decide, by decide +kernel⟩
set_option maxRecDepth 20000 in
theorem J_Ro_isSameAs (l : Launch) {G : rs_G} {Bm : Nat} {S : rs_Shp} {v0 : Nat} {v1 : Nat} {σ : rs_Mem} {Q : Int32 → rs_Mem → Prop} (h_v0 : rs_Ok S 8 v0) (h_v1 : rs_Ok S 8 v1) (hF : F_Ro_isSameAs S.2.2 v0 v1 σ Q) :
    Met l y_Ro_isSameAs (rs_ws y_Ro_isSameAs prog_8_method_5_code 2 (some .boolean)) { frames := 1, cells := 0, slots := 0, locals := 23 } (rs_P G Bm S σ [.ref (Bm + v0), .ref (Bm + v1)]) (rs_Qi G Bm S Q) 0 0 (rs_A Bm) := by
  refine rs_met (own := "RouteSpeaker$Route") (by decide) rfl (Nat.le_of_ble_eq_true rfl) (fun p e s m below meth c ls C hl hH hT hS => ?_)
  replace hl : lv_has ls 2 [(0, .ref (Bm + v0)), (1, .ref (Bm + v1))] := hl
  have hx := C.1
  have hb := C.2.1
  unfold F_Ro_isSameAs at hF
  refine lv_aload_n hx hb d_Ro_isSameAs_0 rfl (lv_at hl 0 rfl) ?_
  refine rs_getI C hH h_v0 fk_8_0 tw_62 d_Ro_isSameAs_1 ?_
  refine lv_aload_n hx hb d_Ro_isSameAs_4 rfl (lv_at hl 1 rfl) ?_
  refine rs_getI C hH h_v1 fk_8_0 tw_62 d_Ro_isSameAs_5 ?_
  refine lv_icmp_ne hx hb d_Ro_isSameAs_8 (tgt := 117) rfl (fun hc => ?_) (fun hc => ?_)
  · replace hF := hF.1 hc
    refine lv_iconst hx hb d_Ro_isSameAs_117 ki_0 ?_
    exact rs_zret C hH hT hS (by decide) hF d_Ro_isSameAs_118
  · replace hF := hF.2 hc
    refine lv_aload_n hx hb d_Ro_isSameAs_11 rfl (lv_at hl 0 rfl) ?_
    refine rs_getI C hH h_v0 fk_8_3 tw_74 d_Ro_isSameAs_12 ?_
    refine lv_aload_n hx hb d_Ro_isSameAs_15 rfl (lv_at hl 1 rfl) ?_
    refine rs_getI C hH h_v1 fk_8_3 tw_74 d_Ro_isSameAs_16 ?_
    refine lv_icmp_ne hx hb d_Ro_isSameAs_19 (tgt := 117) rfl (fun hc => ?_) (fun hc => ?_)
    · replace hF := hF.1 hc
      refine lv_iconst hx hb d_Ro_isSameAs_117 ki_0 ?_
      exact rs_zret C hH hT hS (by decide) hF d_Ro_isSameAs_118
    · replace hF := hF.2 hc
      refine lv_aload_n hx hb d_Ro_isSameAs_22 rfl (lv_at hl 0 rfl) ?_
      refine rs_getI C hH h_v0 fk_8_4 tw_77 d_Ro_isSameAs_23 ?_
      refine lv_aload_n hx hb d_Ro_isSameAs_26 rfl (lv_at hl 1 rfl) ?_
      refine rs_getI C hH h_v1 fk_8_4 tw_77 d_Ro_isSameAs_27 ?_
      refine lv_icmp_ne hx hb d_Ro_isSameAs_30 (tgt := 117) rfl (fun hc => ?_) (fun hc => ?_)
      · replace hF := hF.1 hc
        refine lv_iconst hx hb d_Ro_isSameAs_117 ki_0 ?_
        exact rs_zret C hH hT hS (by decide) hF d_Ro_isSameAs_118
      · replace hF := hF.2 hc
        refine lv_aload_n hx hb d_Ro_isSameAs_33 rfl (lv_at hl 0 rfl) ?_
        refine rs_getI C hH h_v0 fk_8_5 tw_81 d_Ro_isSameAs_34 ?_
        refine lv_aload_n hx hb d_Ro_isSameAs_37 rfl (lv_at hl 1 rfl) ?_
        refine rs_getI C hH h_v1 fk_8_5 tw_81 d_Ro_isSameAs_38 ?_
        refine lv_icmp_ne hx hb d_Ro_isSameAs_41 (tgt := 117) rfl (fun hc => ?_) (fun hc => ?_)
        · replace hF := hF.1 hc
          refine lv_iconst hx hb d_Ro_isSameAs_117 ki_0 ?_
          exact rs_zret C hH hT hS (by decide) hF d_Ro_isSameAs_118
        · replace hF := hF.2 hc
          refine lv_aload_n hx hb d_Ro_isSameAs_44 rfl (lv_at hl 0 rfl) ?_
          refine rs_getI C hH h_v0 fk_8_6 tw_84 d_Ro_isSameAs_45 ?_
          refine lv_aload_n hx hb d_Ro_isSameAs_48 rfl (lv_at hl 1 rfl) ?_
          refine rs_getI C hH h_v1 fk_8_6 tw_84 d_Ro_isSameAs_49 ?_
          refine lv_icmp_ne hx hb d_Ro_isSameAs_52 (tgt := 117) rfl (fun hc => ?_) (fun hc => ?_)
          · replace hF := hF.1 hc
            refine lv_iconst hx hb d_Ro_isSameAs_117 ki_0 ?_
            exact rs_zret C hH hT hS (by decide) hF d_Ro_isSameAs_118
          · replace hF := hF.2 hc
            refine lv_aload_n hx hb d_Ro_isSameAs_55 rfl (lv_at hl 0 rfl) ?_
            refine rs_getI C hH h_v0 fk_8_1 tw_66 d_Ro_isSameAs_56 ?_
            refine lv_aload_n hx hb d_Ro_isSameAs_59 rfl (lv_at hl 1 rfl) ?_
            refine rs_getI C hH h_v1 fk_8_1 tw_66 d_Ro_isSameAs_60 ?_
            refine lv_icmp_ne hx hb d_Ro_isSameAs_63 (tgt := 117) rfl (fun hc => ?_) (fun hc => ?_)
            · replace hF := hF.1 hc
              refine lv_iconst hx hb d_Ro_isSameAs_117 ki_0 ?_
              exact rs_zret C hH hT hS (by decide) hF d_Ro_isSameAs_118
            · replace hF := hF.2 hc
              refine lv_aload_n hx hb d_Ro_isSameAs_66 rfl (lv_at hl 0 rfl) ?_
              refine rs_getR C hH hT h_v0 fk_8_2 tw_70 d_Ro_isSameAs_67 (fun h51 => ?_)
              refine lv_aload_n hx hb d_Ro_isSameAs_70 rfl (lv_at hl 1 rfl) ?_
              refine rs_getR C hH hT h_v1 fk_8_2 tw_70 d_Ro_isSameAs_71 (fun h52 => ?_)
              refine lv_aload_n hx hb d_Ro_isSameAs_74 rfl (lv_at hl 0 rfl) ?_
              refine rs_getI C hH h_v0 fk_8_1 tw_66 d_Ro_isSameAs_75 ?_
              refine rs_ci (rs_runS C hH hT hl (J_Ro_startSame l h51 h52 hF) rc_Ro_startSame tw_815 tw_816 rfl ⟨⟨rfl, rfl⟩, by decide, by decide, by decide⟩ (Nat.le_of_ble_eq_true rfl) rfl d_Ro_isSameAs_78) hS (fun x54 σ53 H locs hH hT hS hF => ?_)
              refine lv_if_eq hx hb d_Ro_isSameAs_81 (tgt := 117) rfl (fun hc => ?_) (fun hc => ?_)
              · replace hF := hF.1 hc
                refine lv_iconst hx hb d_Ro_isSameAs_117 ki_0 ?_
                exact rs_zret C hH hT hS (by decide) hF d_Ro_isSameAs_118
              · replace hF := hF.2 hc
                refine lv_aload_n hx hb d_Ro_isSameAs_84 rfl (lv_at hl 0 rfl) ?_
                refine rs_getI C hH h_v0 fk_8_7 tw_86 d_Ro_isSameAs_85 ?_
                refine lv_aload_n hx hb d_Ro_isSameAs_88 rfl (lv_at hl 1 rfl) ?_
                refine rs_getI C hH h_v1 fk_8_7 tw_86 d_Ro_isSameAs_89 ?_
                refine lv_icmp_ne hx hb d_Ro_isSameAs_92 (tgt := 117) rfl (fun hc => ?_) (fun hc => ?_)
                · replace hF := hF.1 hc
                  refine lv_iconst hx hb d_Ro_isSameAs_117 ki_0 ?_
                  exact rs_zret C hH hT hS (by decide) hF d_Ro_isSameAs_118
                · replace hF := hF.2 hc
                  refine lv_aload_n hx hb d_Ro_isSameAs_95 rfl (lv_at hl 0 rfl) ?_
                  refine rs_getR C hH hT h_v0 fk_8_8 tw_90 d_Ro_isSameAs_96 (fun h55 => ?_)
                  refine lv_aload_n hx hb d_Ro_isSameAs_99 rfl (lv_at hl 1 rfl) ?_
                  refine rs_getR C hH hT h_v1 fk_8_8 tw_90 d_Ro_isSameAs_100 (fun h56 => ?_)
                  refine lv_aload_n hx hb d_Ro_isSameAs_103 rfl (lv_at hl 0 rfl) ?_
                  refine rs_getI C hH h_v0 fk_8_7 tw_86 d_Ro_isSameAs_104 ?_
                  refine rs_ci (rs_runS C hH hT hl (J_Ro_startSame l h55 h56 hF) rc_Ro_startSame tw_815 tw_816 rfl ⟨⟨rfl, rfl⟩, by decide, by decide, by decide⟩ (Nat.le_of_ble_eq_true rfl) rfl d_Ro_isSameAs_107) hS (fun x58 σ57 H locs hH hT hS hF => ?_)
                  refine lv_if_eq hx hb d_Ro_isSameAs_110 (tgt := 117) rfl (fun hc => ?_) (fun hc => ?_)
                  · replace hF := hF.1 hc
                    refine lv_iconst hx hb d_Ro_isSameAs_117 ki_0 ?_
                    exact rs_zret C hH hT hS (by decide) hF d_Ro_isSameAs_118
                  · replace hF := hF.2 hc
                    refine lv_iconst hx hb d_Ro_isSameAs_113 ki_1 ?_
                    refine lv_goto hx hb d_Ro_isSameAs_114 (tgt := 118) rfl ?_
                    exact rs_zret C hH hT hS (by decide) hF d_Ro_isSameAs_118
/-! RouteSpeaker$Route.copyFrom(LRouteSpeaker$Route;)V -/
theorem d_Ro_copyFrom_0 : decode prog_8_method_4_code 0 = .ok (.aload_n 0, 1) := by decide +kernel
theorem d_Ro_copyFrom_1 : decode prog_8_method_4_code 1 = .ok (.aload_n 1, 1) := by decide +kernel
theorem d_Ro_copyFrom_2 : decode prog_8_method_4_code 2 = .ok (.getfield 25, 3) := by decide +kernel
theorem d_Ro_copyFrom_5 : decode prog_8_method_4_code 5 = .ok (.putfield 25, 3) := by decide +kernel
theorem d_Ro_copyFrom_8 : decode prog_8_method_4_code 8 = .ok (.aload_n 0, 1) := by decide +kernel
theorem d_Ro_copyFrom_9 : decode prog_8_method_4_code 9 = .ok (.aload_n 1, 1) := by decide +kernel
theorem d_Ro_copyFrom_10 : decode prog_8_method_4_code 10 = .ok (.getfield 28, 3) := by decide +kernel
theorem d_Ro_copyFrom_13 : decode prog_8_method_4_code 13 = .ok (.putfield 28, 3) := by decide +kernel
theorem d_Ro_copyFrom_16 : decode prog_8_method_4_code 16 = .ok (.aload_n 1, 1) := by decide +kernel
theorem d_Ro_copyFrom_17 : decode prog_8_method_4_code 17 = .ok (.getfield 9, 3) := by decide +kernel
theorem d_Ro_copyFrom_20 : decode prog_8_method_4_code 20 = .ok (.iconst 0, 1) := by decide +kernel
theorem d_Ro_copyFrom_21 : decode prog_8_method_4_code 21 = .ok (.aload_n 0, 1) := by decide +kernel
theorem d_Ro_copyFrom_22 : decode prog_8_method_4_code 22 = .ok (.getfield 9, 3) := by decide +kernel
theorem d_Ro_copyFrom_25 : decode prog_8_method_4_code 25 = .ok (.iconst 0, 1) := by decide +kernel
theorem d_Ro_copyFrom_26 : decode prog_8_method_4_code 26 = .ok (.bipush (8), 2) := by decide +kernel
theorem d_Ro_copyFrom_28 : decode prog_8_method_4_code 28 = .ok (.invokestatic 43, 3) := by decide +kernel
theorem d_Ro_copyFrom_31 : decode prog_8_method_4_code 31 = .ok (.aload_n 0, 1) := by decide +kernel
theorem d_Ro_copyFrom_32 : decode prog_8_method_4_code 32 = .ok (.aload_n 1, 1) := by decide +kernel
theorem d_Ro_copyFrom_33 : decode prog_8_method_4_code 33 = .ok (.getfield 31, 3) := by decide +kernel
theorem d_Ro_copyFrom_36 : decode prog_8_method_4_code 36 = .ok (.putfield 31, 3) := by decide +kernel
theorem d_Ro_copyFrom_39 : decode prog_8_method_4_code 39 = .ok (.aload_n 0, 1) := by decide +kernel
theorem d_Ro_copyFrom_40 : decode prog_8_method_4_code 40 = .ok (.aload_n 1, 1) := by decide +kernel
theorem d_Ro_copyFrom_41 : decode prog_8_method_4_code 41 = .ok (.getfield 15, 3) := by decide +kernel
theorem d_Ro_copyFrom_44 : decode prog_8_method_4_code 44 = .ok (.putfield 15, 3) := by decide +kernel
theorem d_Ro_copyFrom_47 : decode prog_8_method_4_code 47 = .ok (.aload_n 0, 1) := by decide +kernel
theorem d_Ro_copyFrom_48 : decode prog_8_method_4_code 48 = .ok (.aload_n 1, 1) := by decide +kernel
theorem d_Ro_copyFrom_49 : decode prog_8_method_4_code 49 = .ok (.getfield 19, 3) := by decide +kernel
theorem d_Ro_copyFrom_52 : decode prog_8_method_4_code 52 = .ok (.putfield 19, 3) := by decide +kernel
theorem d_Ro_copyFrom_55 : decode prog_8_method_4_code 55 = .ok (.aload_n 0, 1) := by decide +kernel
theorem d_Ro_copyFrom_56 : decode prog_8_method_4_code 56 = .ok (.aload_n 1, 1) := by decide +kernel
theorem d_Ro_copyFrom_57 : decode prog_8_method_4_code 57 = .ok (.getfield 37, 3) := by decide +kernel
theorem d_Ro_copyFrom_60 : decode prog_8_method_4_code 60 = .ok (.putfield 37, 3) := by decide +kernel
theorem d_Ro_copyFrom_63 : decode prog_8_method_4_code 63 = .ok (.aload_n 0, 1) := by decide +kernel
theorem d_Ro_copyFrom_64 : decode prog_8_method_4_code 64 = .ok (.aload_n 1, 1) := by decide +kernel
theorem d_Ro_copyFrom_65 : decode prog_8_method_4_code 65 = .ok (.getfield 40, 3) := by decide +kernel
theorem d_Ro_copyFrom_68 : decode prog_8_method_4_code 68 = .ok (.putfield 40, 3) := by decide +kernel
theorem d_Ro_copyFrom_71 : decode prog_8_method_4_code 71 = .ok (.aload_n 1, 1) := by decide +kernel
theorem d_Ro_copyFrom_72 : decode prog_8_method_4_code 72 = .ok (.getfield 22, 3) := by decide +kernel
theorem d_Ro_copyFrom_75 : decode prog_8_method_4_code 75 = .ok (.iconst 0, 1) := by decide +kernel
theorem d_Ro_copyFrom_76 : decode prog_8_method_4_code 76 = .ok (.aload_n 0, 1) := by decide +kernel
theorem d_Ro_copyFrom_77 : decode prog_8_method_4_code 77 = .ok (.getfield 22, 3) := by decide +kernel
theorem d_Ro_copyFrom_80 : decode prog_8_method_4_code 80 = .ok (.iconst 0, 1) := by decide +kernel
theorem d_Ro_copyFrom_81 : decode prog_8_method_4_code 81 = .ok (.bipush (6), 2) := by decide +kernel
theorem d_Ro_copyFrom_83 : decode prog_8_method_4_code 83 = .ok (.invokestatic 43, 3) := by decide +kernel
theorem d_Ro_copyFrom_86 : decode prog_8_method_4_code 86 = .ok (.return_, 1) := by decide +kernel
def F_Ro_copyFrom (N : Nat → Nat) (v0 : Nat) (v1 : Nat) (σ : rs_Mem) (Q : rs_Mem → Prop) : Prop :=
  (∀ σ51 : rs_Mem, σ51 = rs_sI σ v0 0 (rs_I σ v1 0) → (∀ σ52 : rs_Mem, σ52 = rs_sI σ51 v0 1 (rs_I σ51 v1 1) → ((¬ (8 : Int32) < 0 ∧ (8 : Int32).toNatClampNeg ≤ N (rs_R σ52 v1 2) ∧ (8 : Int32).toNatClampNeg ≤ N (rs_R σ52 v0 2) ∧ (rs_R σ52 v1 2) ≠ (rs_R σ52 v0 2)) ∧ ∀ σ55 : rs_Mem, σ55 = rs_cp σ52 (rs_R σ52 v1 2) (rs_R σ52 v0 2) (8 : Int32).toNatClampNeg → (∀ σ57 : rs_Mem, σ57 = rs_sI σ55 v0 3 (rs_I σ55 v1 3) → (∀ σ58 : rs_Mem, σ58 = rs_sI σ57 v0 4 (rs_I σ57 v1 4) → (∀ σ59 : rs_Mem, σ59 = rs_sI σ58 v0 5 (rs_I σ58 v1 5) → (∀ σ60 : rs_Mem, σ60 = rs_sI σ59 v0 6 (rs_I σ59 v1 6) → (∀ σ61 : rs_Mem, σ61 = rs_sI σ60 v0 7 (rs_I σ60 v1 7) → ((¬ (6 : Int32) < 0 ∧ (6 : Int32).toNatClampNeg ≤ N (rs_R σ61 v1 8) ∧ (6 : Int32).toNatClampNeg ≤ N (rs_R σ61 v0 8) ∧ (rs_R σ61 v1 8) ≠ (rs_R σ61 v0 8)) ∧ ∀ σ64 : rs_Mem, σ64 = rs_cp σ61 (rs_R σ61 v1 8) (rs_R σ61 v0 8) (6 : Int32).toNatClampNeg → (Q σ64))))))))))
abbrev y_Ro_copyFrom : MethodName := ({ cls := "RouteSpeaker$Route", name := "copyFrom", desc := "(LRouteSpeaker$Route;)V" } : Jvm.MethodName)
theorem rc_Ro_copyFrom : rs_Cal y_Ro_copyFrom prog_8_method_4_code 2 none 1 := ⟨tw_821, tw_3, by decide, by decide, by decide +kernel⟩
set_option maxRecDepth 20000 in
theorem J_Ro_copyFrom (l : Launch) {G : rs_G} {Bm : Nat} {S : rs_Shp} {v0 : Nat} {v1 : Nat} {σ : rs_Mem} {Q : rs_Mem → Prop} (h_v0 : rs_Ok S 8 v0) (h_v1 : rs_Ok S 8 v1) (hF : F_Ro_copyFrom S.2.2 v0 v1 σ Q) :
    Met l y_Ro_copyFrom (rs_ws y_Ro_copyFrom prog_8_method_4_code 2 none) { frames := 1, cells := 0, slots := 0, locals := 40 } (rs_P G Bm S σ [.ref (Bm + v0), .ref (Bm + v1)]) (rs_Qv G Bm S Q) 0 0 (rs_A Bm) := by
  refine rs_met (own := "RouteSpeaker$Route") (by decide) rfl (Nat.le_of_ble_eq_true rfl) (fun p e s m below meth c ls C hl hH hT hS => ?_)
  replace hl : lv_has ls 2 [(0, .ref (Bm + v0)), (1, .ref (Bm + v1))] := hl
  have hx := C.1
  have hb := C.2.1
  unfold F_Ro_copyFrom at hF
  refine lv_aload_n hx hb d_Ro_copyFrom_0 rfl (lv_at hl 0 rfl) ?_
  refine lv_aload_n hx hb d_Ro_copyFrom_1 rfl (lv_at hl 1 rfl) ?_
  refine rs_getI C hH h_v1 fk_8_0 tw_62 d_Ro_copyFrom_2 ?_
  refine rs_putI C hH hT hS h_v0 fk_8_0 rfl tw_62 d_Ro_copyFrom_5 (fun σ51 H locs eσ51 hH hT hS => ?_)
  replace hF := hF σ51 eσ51
  refine lv_aload_n hx hb d_Ro_copyFrom_8 rfl (lv_at hl 0 rfl) ?_
  refine lv_aload_n hx hb d_Ro_copyFrom_9 rfl (lv_at hl 1 rfl) ?_
  refine rs_getI C hH h_v1 fk_8_1 tw_66 d_Ro_copyFrom_10 ?_
  refine rs_putI C hH hT hS h_v0 fk_8_1 rfl tw_66 d_Ro_copyFrom_13 (fun σ52 H locs eσ52 hH hT hS => ?_)
  replace hF := hF σ52 eσ52
  refine lv_aload_n hx hb d_Ro_copyFrom_16 rfl (lv_at hl 1 rfl) ?_
  refine rs_getR C hH hT h_v1 fk_8_2 tw_70 d_Ro_copyFrom_17 (fun h53 => ?_)
  refine lv_iconst hx hb d_Ro_copyFrom_20 ki_0 ?_
  refine lv_aload_n hx hb d_Ro_copyFrom_21 rfl (lv_at hl 0 rfl) ?_
  refine rs_getR C hH hT h_v0 fk_8_2 tw_70 d_Ro_copyFrom_22 (fun h54 => ?_)
  refine lv_iconst hx hb d_Ro_copyFrom_25 ki_0 ?_
  refine lv_bipush hx hb d_Ro_copyFrom_26 kb_8 ?_
  obtain ⟨g56, hF⟩ := hF
  refine rs_copy C hH hT hS hl h53 h54 g56 tw_822 tw_824 tw_823 tw_18 ⟨by decide, Nat.le_of_ble_eq_true rfl⟩ d_Ro_copyFrom_28 (fun σ55 H locs eσ55 hH hT hS => ?_)
  replace hF := hF σ55 eσ55
  refine lv_aload_n hx hb d_Ro_copyFrom_31 rfl (lv_at hl 0 rfl) ?_
  refine lv_aload_n hx hb d_Ro_copyFrom_32 rfl (lv_at hl 1 rfl) ?_
  refine rs_getI C hH h_v1 fk_8_3 tw_74 d_Ro_copyFrom_33 ?_
  refine rs_putI C hH hT hS h_v0 fk_8_3 rfl tw_74 d_Ro_copyFrom_36 (fun σ57 H locs eσ57 hH hT hS => ?_)
  replace hF := hF σ57 eσ57
  refine lv_aload_n hx hb d_Ro_copyFrom_39 rfl (lv_at hl 0 rfl) ?_
  refine lv_aload_n hx hb d_Ro_copyFrom_40 rfl (lv_at hl 1 rfl) ?_
  refine rs_getI C hH h_v1 fk_8_4 tw_77 d_Ro_copyFrom_41 ?_
  refine rs_putI C hH hT hS h_v0 fk_8_4 rfl tw_77 d_Ro_copyFrom_44 (fun σ58 H locs eσ58 hH hT hS => ?_)
  replace hF := hF σ58 eσ58
  refine lv_aload_n hx hb d_Ro_copyFrom_47 rfl (lv_at hl 0 rfl) ?_
  refine lv_aload_n hx hb d_Ro_copyFrom_48 rfl (lv_at hl 1 rfl) ?_
  refine rs_getI C hH h_v1 fk_8_5 tw_81 d_Ro_copyFrom_49 ?_
  refine rs_putI C hH hT hS h_v0 fk_8_5 rfl tw_81 d_Ro_copyFrom_52 (fun σ59 H locs eσ59 hH hT hS => ?_)
  replace hF := hF σ59 eσ59
  refine lv_aload_n hx hb d_Ro_copyFrom_55 rfl (lv_at hl 0 rfl) ?_
  refine lv_aload_n hx hb d_Ro_copyFrom_56 rfl (lv_at hl 1 rfl) ?_
  refine rs_getI C hH h_v1 fk_8_6 tw_84 d_Ro_copyFrom_57 ?_
  refine rs_putI C hH hT hS h_v0 fk_8_6 rfl tw_84 d_Ro_copyFrom_60 (fun σ60 H locs eσ60 hH hT hS => ?_)
  replace hF := hF σ60 eσ60
  refine lv_aload_n hx hb d_Ro_copyFrom_63 rfl (lv_at hl 0 rfl) ?_
  refine lv_aload_n hx hb d_Ro_copyFrom_64 rfl (lv_at hl 1 rfl) ?_
  refine rs_getI C hH h_v1 fk_8_7 tw_86 d_Ro_copyFrom_65 ?_
  refine rs_putI C hH hT hS h_v0 fk_8_7 rfl tw_86 d_Ro_copyFrom_68 (fun σ61 H locs eσ61 hH hT hS => ?_)
  replace hF := hF σ61 eσ61
  refine lv_aload_n hx hb d_Ro_copyFrom_71 rfl (lv_at hl 1 rfl) ?_
  refine rs_getR C hH hT h_v1 fk_8_8 tw_90 d_Ro_copyFrom_72 (fun h62 => ?_)
  refine lv_iconst hx hb d_Ro_copyFrom_75 ki_0 ?_
  refine lv_aload_n hx hb d_Ro_copyFrom_76 rfl (lv_at hl 0 rfl) ?_
  refine rs_getR C hH hT h_v0 fk_8_8 tw_90 d_Ro_copyFrom_77 (fun h63 => ?_)
  refine lv_iconst hx hb d_Ro_copyFrom_80 ki_0 ?_
  refine lv_bipush hx hb d_Ro_copyFrom_81 kb_6 ?_
  obtain ⟨g65, hF⟩ := hF
  refine rs_copy C hH hT hS hl h62 h63 g65 tw_822 tw_824 tw_823 tw_18 ⟨by decide, Nat.le_of_ble_eq_true rfl⟩ d_Ro_copyFrom_83 (fun σ64 H locs eσ64 hH hT hS => ?_)
  replace hF := hF σ64 eσ64
  exact rs_vret C hH hT hS hF d_Ro_copyFrom_86
/-! RouteSpeaker$Incoming.announce(ILRouteSpeaker$Route;)V -/
theorem d_In_announce_0 : decode prog_3_method_5_code 0 = .ok (.iload_n 1, 1) := by decide +kernel
theorem d_In_announce_1 : decode prog_3_method_5_code 1 = .ok (.ifCond .lt (9), 3) := by decide +kernel
theorem d_In_announce_4 : decode prog_3_method_5_code 4 = .ok (.iload_n 1, 1) := by decide +kernel
theorem d_In_announce_5 : decode prog_3_method_5_code 5 = .ok (.bipush (12), 2) := by decide +kernel
theorem d_In_announce_7 : decode prog_3_method_5_code 7 = .ok (.if_icmp .lt (4), 3) := by decide +kernel
theorem d_In_announce_10 : decode prog_3_method_5_code 10 = .ok (.return_, 1) := by decide +kernel
theorem d_In_announce_11 : decode prog_3_method_5_code 11 = .ok (.aload_n 0, 1) := by decide +kernel
theorem d_In_announce_12 : decode prog_3_method_5_code 12 = .ok (.getfield 21, 3) := by decide +kernel
theorem d_In_announce_15 : decode prog_3_method_5_code 15 = .ok (.iload_n 1, 1) := by decide +kernel
theorem d_In_announce_16 : decode prog_3_method_5_code 16 = .ok (.baload, 1) := by decide +kernel
theorem d_In_announce_17 : decode prog_3_method_5_code 17 = .ok (.ifCond .eq (20), 3) := by decide +kernel
theorem d_In_announce_20 : decode prog_3_method_5_code 20 = .ok (.aload_n 0, 1) := by decide +kernel
theorem d_In_announce_21 : decode prog_3_method_5_code 21 = .ok (.getfield 11, 3) := by decide +kernel
theorem d_In_announce_24 : decode prog_3_method_5_code 24 = .ok (.iload_n 1, 1) := by decide +kernel
theorem d_In_announce_25 : decode prog_3_method_5_code 25 = .ok (.aaload, 1) := by decide +kernel
theorem d_In_announce_26 : decode prog_3_method_5_code 26 = .ok (.aload_n 2, 1) := by decide +kernel
theorem d_In_announce_27 : decode prog_3_method_5_code 27 = .ok (.invokevirtual 39, 3) := by decide +kernel
theorem d_In_announce_30 : decode prog_3_method_5_code 30 = .ok (.ifCond .ne (7), 3) := by decide +kernel
theorem d_In_announce_33 : decode prog_3_method_5_code 33 = .ok (.iconst 1, 1) := by decide +kernel
theorem d_In_announce_34 : decode prog_3_method_5_code 34 = .ok (.goto (4), 3) := by decide +kernel
theorem d_In_announce_37 : decode prog_3_method_5_code 37 = .ok (.iconst 0, 1) := by decide +kernel
theorem d_In_announce_38 : decode prog_3_method_5_code 38 = .ok (.istore_n 3, 1) := by decide +kernel
theorem d_In_announce_39 : decode prog_3_method_5_code 39 = .ok (.aload_n 0, 1) := by decide +kernel
theorem d_In_announce_40 : decode prog_3_method_5_code 40 = .ok (.getfield 21, 3) := by decide +kernel
theorem d_In_announce_43 : decode prog_3_method_5_code 43 = .ok (.iload_n 1, 1) := by decide +kernel
theorem d_In_announce_44 : decode prog_3_method_5_code 44 = .ok (.iconst 1, 1) := by decide +kernel
theorem d_In_announce_45 : decode prog_3_method_5_code 45 = .ok (.bastore, 1) := by decide +kernel
theorem d_In_announce_46 : decode prog_3_method_5_code 46 = .ok (.aload_n 0, 1) := by decide +kernel
theorem d_In_announce_47 : decode prog_3_method_5_code 47 = .ok (.getfield 11, 3) := by decide +kernel
theorem d_In_announce_50 : decode prog_3_method_5_code 50 = .ok (.iload_n 1, 1) := by decide +kernel
theorem d_In_announce_51 : decode prog_3_method_5_code 51 = .ok (.aaload, 1) := by decide +kernel
theorem d_In_announce_52 : decode prog_3_method_5_code 52 = .ok (.aload_n 2, 1) := by decide +kernel
theorem d_In_announce_53 : decode prog_3_method_5_code 53 = .ok (.invokevirtual 43, 3) := by decide +kernel
theorem d_In_announce_56 : decode prog_3_method_5_code 56 = .ok (.iload_n 3, 1) := by decide +kernel
theorem d_In_announce_57 : decode prog_3_method_5_code 57 = .ok (.ifCond .eq (11), 3) := by decide +kernel
theorem d_In_announce_60 : decode prog_3_method_5_code 60 = .ok (.aload_n 0, 1) := by decide +kernel
theorem d_In_announce_61 : decode prog_3_method_5_code 61 = .ok (.iload_n 1, 1) := by decide +kernel
theorem d_In_announce_62 : decode prog_3_method_5_code 62 = .ok (.ldc2_w 47, 3) := by decide +kernel
theorem d_In_announce_65 : decode prog_3_method_5_code 65 = .ok (.invokevirtual 35, 3) := by decide +kernel
theorem d_In_announce_68 : decode prog_3_method_5_code 68 = .ok (.return_, 1) := by decide +kernel
def B_In_announce_38 (N : Nat → Nat) (Q : rs_Mem → Prop) (v0 : Nat) (x1 : Int32) (v2 : Nat) (y0 : Int32) (σ : rs_Mem) : Prop :=
  (vp_in x1 (N (rs_R σ v0 2)) ∧ ∀ σ53 : rs_Mem, σ53 = rs_sI σ (rs_R σ v0 2) x1.toNatClampNeg (1 : Int32) → (vp_in x1 (N (rs_R σ53 v0 0)) ∧ (F_Ro_copyFrom N (rs_R σ53 (rs_R σ53 v0 0) x1.toNatClampNeg) v2 σ53 (fun σ57 => ((y0 = 0 → (Q σ57)) ∧ (¬ (y0 = 0) → (F_In_grow N v0 x1 (4647503709213818880 : UInt64) σ57 (fun σ58 => (Q σ58)))))))))
def B_In_announce_37 (N : Nat → Nat) (Q : rs_Mem → Prop) (v0 : Nat) (x1 : Int32) (v2 : Nat) (σ : rs_Mem) : Prop :=
  (B_In_announce_38 N Q v0 x1 v2 (0 : Int32) σ)
def F_In_announce (N : Nat → Nat) (v0 : Nat) (x1 : Int32) (v2 : Nat) (σ : rs_Mem) (Q : rs_Mem → Prop) : Prop :=
  ((x1 < 0 → (Q σ)) ∧ (¬ (x1 < 0) → ((x1 < (12 : Int32) → (vp_in x1 (N (rs_R σ v0 2)) ∧ (((rs_I σ (rs_R σ v0 2) x1.toNatClampNeg) = 0 → (B_In_announce_37 N Q v0 x1 v2 σ)) ∧ (¬ ((rs_I σ (rs_R σ v0 2) x1.toNatClampNeg) = 0) → (vp_in x1 (N (rs_R σ v0 0)) ∧ (F_Ro_isSameAs N (rs_R σ (rs_R σ v0 0) x1.toNatClampNeg) v2 σ (fun x57 σ56 => ((¬ (x57 = 0) → (B_In_announce_37 N Q v0 x1 v2 σ56)) ∧ (x57 = 0 → (B_In_announce_38 N Q v0 x1 v2 (1 : Int32) σ56)))))))))) ∧ (¬ (x1 < (12 : Int32)) → (Q σ)))))
set_option maxRecDepth 20000 in
theorem JB_In_announce_38 {p : Program} {l : Launch} {e : Env} {s : State} {m : MethodId} {args : Array Value} {below : List Frame} {meth : Method} {c : Code} {G : rs_G} {Bm : Nat} {S : rs_Shp} {Q : rs_Mem → Prop} (C : rs_C "RouteSpeaker$Incoming" prog_3_method_5_code 4 none G p s m meth c args) (v0 : Nat) (x1 : Int32) (v2 : Nat) (y0 : Int32) (σ : rs_Mem) (H : Heap) (locs : List Loc) (ls : Array Slot) (h_v0 : rs_Ok S 3 v0) (h_v2 : rs_Ok S 8 v2) (hH : rs_H G Bm S σ H) (hT : rs_T S σ) (hS : va_S (rs_A Bm) s.heap H locs) (hl : lv_has ls 4 [(0, .ref (Bm + v0)), (1, .int x1), (2, .ref (Bm + v2))]) (hF : B_In_announce_38 S.2.2 Q v0 x1 v2 y0 σ) :
    W p l e { frames := 2, cells := 0, slots := 0, locals := 61 } s m args below meth c H locs 0 0 (MQ below (rs_Qv G Bm S Q) args s 0 0 (rs_A Bm)) (F0 m 38 ls [.int y0]) := by
  have hx := C.1
  have hb := C.2.1
  unfold B_In_announce_38 at hF
  refine lv_istore_n hx hb d_In_announce_38 rfl hl (by decide) (lv' := [(3, .int y0), (0, .ref (Bm + v0)), (1, .int x1), (2, .ref (Bm + v2))]) rfl (fun ls hl => ?_)
  refine lv_aload_n hx hb d_In_announce_39 rfl (lv_at hl 1 rfl) ?_
  refine rs_getR C hH hT h_v0 fk_3_2 tw_241 d_In_announce_40 (fun h51 => ?_)
  refine lv_iload_n hx hb d_In_announce_43 rfl (lv_at hl 2 rfl) ?_
  refine lv_iconst hx hb d_In_announce_44 ki_1 ?_
  obtain ⟨g52, hF⟩ := hF
  refine rs_zast C hH hT hS (by decide) h51 g52 d_In_announce_45 (fun σ53 H locs eσ53 hH hT hS => ?_)
  replace hF := hF σ53 eσ53
  refine lv_aload_n hx hb d_In_announce_46 rfl (lv_at hl 1 rfl) ?_
  refine rs_getR C hH hT h_v0 fk_3_0 tw_237 d_In_announce_47 (fun h54 => ?_)
  refine lv_iload_n hx hb d_In_announce_50 rfl (lv_at hl 2 rfl) ?_
  obtain ⟨g55, hF⟩ := hF
  refine rs_aald C hH hT h54 ak_25 g55 d_In_announce_51 (fun h56 => ?_)
  refine lv_aload_n hx hb d_In_announce_52 rfl (lv_at hl 3 rfl) ?_
  refine rs_cv (rs_runV C hH hT hl (J_Ro_copyFrom l h56 h_v2 hF) rc_Ro_copyFrom tw_818 tw_819 tw_820 h56 ⟨rfl, by decide, by decide⟩ rfl ⟨⟨rfl, rfl⟩, by decide, by decide, by decide⟩ (Nat.le_of_ble_eq_true rfl) rfl d_In_announce_53) hS (fun σ57 H locs hH hT hS hF => ?_)
  refine lv_iload_n hx hb d_In_announce_56 rfl (lv_at hl 0 rfl) ?_
  refine lv_if_eq hx hb d_In_announce_57 (tgt := 68) rfl (fun hc => ?_) (fun hc => ?_)
  · replace hF := hF.1 hc
    exact rs_vret C hH hT hS hF d_In_announce_68
  · replace hF := hF.2 hc
    refine lv_aload_n hx hb d_In_announce_60 rfl (lv_at hl 1 rfl) ?_
    refine lv_iload_n hx hb d_In_announce_61 rfl (lv_at hl 2 rfl) ?_
    refine lv_ldc2d hx hb C.2.2.2.2.1 (C.2.2.2.2.2.1 _ tw_825) d_In_announce_62 ?_
    refine rs_cv (rs_runV C hH hT hl (J_In_grow l h_v0 hF) rc_In_grow tw_800 tw_802 ts_33 h_v0 ⟨rfl, by decide, by decide⟩ rfl ⟨⟨rfl, rfl⟩, by decide, by decide, by decide⟩ (Nat.le_of_ble_eq_true rfl) rfl d_In_announce_65) hS (fun σ58 H locs hH hT hS hF => ?_)
    exact rs_vret C hH hT hS hF d_In_announce_68
set_option maxRecDepth 20000 in
theorem JB_In_announce_37 {p : Program} {l : Launch} {e : Env} {s : State} {m : MethodId} {args : Array Value} {below : List Frame} {meth : Method} {c : Code} {G : rs_G} {Bm : Nat} {S : rs_Shp} {Q : rs_Mem → Prop} (C : rs_C "RouteSpeaker$Incoming" prog_3_method_5_code 4 none G p s m meth c args) (v0 : Nat) (x1 : Int32) (v2 : Nat) (σ : rs_Mem) (H : Heap) (locs : List Loc) (ls : Array Slot) (h_v0 : rs_Ok S 3 v0) (h_v2 : rs_Ok S 8 v2) (hH : rs_H G Bm S σ H) (hT : rs_T S σ) (hS : va_S (rs_A Bm) s.heap H locs) (hl : lv_has ls 4 [(0, .ref (Bm + v0)), (1, .int x1), (2, .ref (Bm + v2))]) (hF : B_In_announce_37 S.2.2 Q v0 x1 v2 σ) :
    W p l e { frames := 2, cells := 0, slots := 0, locals := 61 } s m args below meth c H locs 0 0 (MQ below (rs_Qv G Bm S Q) args s 0 0 (rs_A Bm)) (F0 m 37 ls []) := by
  have hx := C.1
  have hb := C.2.1
  unfold B_In_announce_37 at hF
  refine lv_iconst hx hb d_In_announce_37 ki_0 ?_
  exact JB_In_announce_38 C v0 x1 v2 (0 : Int32) σ _ _ _ h_v0 h_v2 hH hT hS (lv_sub hl [0, 1, 2] rfl) hF
abbrev y_In_announce : MethodName := ({ cls := "RouteSpeaker$Incoming", name := "announce", desc := "(ILRouteSpeaker$Route;)V" } : Jvm.MethodName)
theorem rc_In_announce : rs_Cal y_In_announce prog_3_method_5_code 4 none 2 := ⟨tw_810, tw_10, by decide, by decide, by decide +kernel⟩
set_option maxRecDepth 20000 in
theorem J_In_announce (l : Launch) {G : rs_G} {Bm : Nat} {S : rs_Shp} {v0 : Nat} {x1 : Int32} {v2 : Nat} {σ : rs_Mem} {Q : rs_Mem → Prop} (h_v0 : rs_Ok S 3 v0) (h_v2 : rs_Ok S 8 v2) (hF : F_In_announce S.2.2 v0 x1 v2 σ Q) :
    Met l y_In_announce (rs_ws y_In_announce prog_3_method_5_code 4 none) { frames := 2, cells := 0, slots := 0, locals := 61 } (rs_P G Bm S σ [.ref (Bm + v0), .int x1, .ref (Bm + v2)]) (rs_Qv G Bm S Q) 0 0 (rs_A Bm) := by
  refine rs_met (own := "RouteSpeaker$Incoming") (by decide) rfl (Nat.le_of_ble_eq_true rfl) (fun p e s m below meth c ls C hl hH hT hS => ?_)
  replace hl : lv_has ls 4 [(0, .ref (Bm + v0)), (1, .int x1), (2, .ref (Bm + v2))] := hl
  have hx := C.1
  have hb := C.2.1
  unfold F_In_announce at hF
  refine lv_iload_n hx hb d_In_announce_0 rfl (lv_at hl 1 rfl) ?_
  refine lv_if_lt hx hb d_In_announce_1 (tgt := 10) rfl (fun hc => ?_) (fun hc => ?_)
  · replace hF := hF.1 hc
    exact rs_vret C hH hT hS hF d_In_announce_10
  · replace hF := hF.2 hc
    refine lv_iload_n hx hb d_In_announce_4 rfl (lv_at hl 1 rfl) ?_
    refine lv_bipush hx hb d_In_announce_5 kb_12 ?_
    refine lv_icmp_lt hx hb d_In_announce_7 (tgt := 11) rfl (fun hc => ?_) (fun hc => ?_)
    · replace hF := hF.1 hc
      refine lv_aload_n hx hb d_In_announce_11 rfl (lv_at hl 0 rfl) ?_
      refine rs_getR C hH hT h_v0 fk_3_2 tw_241 d_In_announce_12 (fun h51 => ?_)
      refine lv_iload_n hx hb d_In_announce_15 rfl (lv_at hl 1 rfl) ?_
      obtain ⟨g52, hF⟩ := hF
      refine rs_zald C hH h51 g52 d_In_announce_16 ?_
      refine lv_if_eq hx hb d_In_announce_17 (tgt := 37) rfl (fun hc => ?_) (fun hc => ?_)
      · replace hF := hF.1 hc
        exact JB_In_announce_37 C v0 x1 v2 σ _ _ _ h_v0 h_v2 hH hT hS (lv_sub hl [0, 1, 2] rfl) hF
      · replace hF := hF.2 hc
        refine lv_aload_n hx hb d_In_announce_20 rfl (lv_at hl 0 rfl) ?_
        refine rs_getR C hH hT h_v0 fk_3_0 tw_237 d_In_announce_21 (fun h53 => ?_)
        refine lv_iload_n hx hb d_In_announce_24 rfl (lv_at hl 1 rfl) ?_
        obtain ⟨g54, hF⟩ := hF
        refine rs_aald C hH hT h53 ak_25 g54 d_In_announce_25 (fun h55 => ?_)
        refine lv_aload_n hx hb d_In_announce_26 rfl (lv_at hl 2 rfl) ?_
        refine rs_ci (rs_runV C hH hT hl (J_Ro_isSameAs l h55 h_v2 hF) rc_Ro_isSameAs tw_811 tw_812 tw_813 h55 ⟨rfl, by decide, by decide⟩ rfl ⟨⟨rfl, rfl⟩, by decide, by decide, by decide⟩ (Nat.le_of_ble_eq_true rfl) rfl d_In_announce_27) hS (fun x57 σ56 H locs hH hT hS hF => ?_)
        refine lv_if_ne hx hb d_In_announce_30 (tgt := 37) rfl (fun hc => ?_) (fun hc => ?_)
        · replace hF := hF.1 hc
          exact JB_In_announce_37 C v0 x1 v2 σ56 _ _ _ h_v0 h_v2 hH hT hS (lv_sub hl [0, 1, 2] rfl) hF
        · replace hF := hF.2 hc
          refine lv_iconst hx hb d_In_announce_33 ki_1 ?_
          refine lv_goto hx hb d_In_announce_34 (tgt := 38) rfl ?_
          exact JB_In_announce_38 C v0 x1 v2 (1 : Int32) σ56 _ _ _ h_v0 h_v2 hH hT hS (lv_sub hl [0, 1, 2] rfl) hF
    · replace hF := hF.2 hc
      exact rs_vret C hH hT hS hF d_In_announce_10
/-! RouteSpeaker$Peer.takeIn(LRouteSpeaker$Update;LRouteSpeaker$Prefixes;)V -/
theorem d_Pe_takeIn_0 : decode prog_6_method_20_code 0 = .ok (.iconst 0, 1) := by decide +kernel
theorem d_Pe_takeIn_1 : decode prog_6_method_20_code 1 = .ok (.istore_n 3, 1) := by decide +kernel
theorem d_Pe_takeIn_2 : decode prog_6_method_20_code 2 = .ok (.iload_n 3, 1) := by decide +kernel
theorem d_Pe_takeIn_3 : decode prog_6_method_20_code 3 = .ok (.aload_n 1, 1) := by decide +kernel
theorem d_Pe_takeIn_4 : decode prog_6_method_20_code 4 = .ok (.getfield 154, 3) := by decide +kernel
theorem d_Pe_takeIn_7 : decode prog_6_method_20_code 7 = .ok (.if_icmp .ge (43), 3) := by decide +kernel
theorem d_Pe_takeIn_10 : decode prog_6_method_20_code 10 = .ok (.aload_n 1, 1) := by decide +kernel
theorem d_Pe_takeIn_11 : decode prog_6_method_20_code 11 = .ok (.iload_n 3, 1) := by decide +kernel
theorem d_Pe_takeIn_12 : decode prog_6_method_20_code 12 = .ok (.invokevirtual 157, 3) := by decide +kernel
theorem d_Pe_takeIn_15 : decode prog_6_method_20_code 15 = .ok (.istore 4, 2) := by decide +kernel
theorem d_Pe_takeIn_17 : decode prog_6_method_20_code 17 = .ok (.aload_n 0, 1) := by decide +kernel
theorem d_Pe_takeIn_18 : decode prog_6_method_20_code 18 = .ok (.getfield 39, 3) := by decide +kernel
theorem d_Pe_takeIn_21 : decode prog_6_method_20_code 21 = .ok (.aload_n 2, 1) := by decide +kernel
theorem d_Pe_takeIn_22 : decode prog_6_method_20_code 22 = .ok (.aload_n 0, 1) := by decide +kernel
theorem d_Pe_takeIn_23 : decode prog_6_method_20_code 23 = .ok (.getfield 22, 3) := by decide +kernel
theorem d_Pe_takeIn_26 : decode prog_6_method_20_code 26 = .ok (.iload 4, 2) := by decide +kernel
theorem d_Pe_takeIn_28 : decode prog_6_method_20_code 28 = .ok (.iaload, 1) := by decide +kernel
theorem d_Pe_takeIn_29 : decode prog_6_method_20_code 29 = .ok (.aload_n 0, 1) := by decide +kernel
theorem d_Pe_takeIn_30 : decode prog_6_method_20_code 30 = .ok (.getfield 22, 3) := by decide +kernel
theorem d_Pe_takeIn_33 : decode prog_6_method_20_code 33 = .ok (.iload 4, 2) := by decide +kernel
theorem d_Pe_takeIn_35 : decode prog_6_method_20_code 35 = .ok (.iconst 1, 1) := by decide +kernel
theorem d_Pe_takeIn_36 : decode prog_6_method_20_code 36 = .ok (.iadd, 1) := by decide +kernel
theorem d_Pe_takeIn_37 : decode prog_6_method_20_code 37 = .ok (.iaload, 1) := by decide +kernel
theorem d_Pe_takeIn_38 : decode prog_6_method_20_code 38 = .ok (.invokevirtual 161, 3) := by decide +kernel
theorem d_Pe_takeIn_41 : decode prog_6_method_20_code 41 = .ok (.invokevirtual 166, 3) := by decide +kernel
theorem d_Pe_takeIn_44 : decode prog_6_method_20_code 44 = .ok (.iinc 3 (1), 3) := by decide +kernel
theorem d_Pe_takeIn_47 : decode prog_6_method_20_code 47 = .ok (.goto (-45), 3) := by decide +kernel
theorem d_Pe_takeIn_50 : decode prog_6_method_20_code 50 = .ok (.iconst 0, 1) := by decide +kernel
theorem d_Pe_takeIn_51 : decode prog_6_method_20_code 51 = .ok (.istore_n 3, 1) := by decide +kernel
theorem d_Pe_takeIn_52 : decode prog_6_method_20_code 52 = .ok (.iload_n 3, 1) := by decide +kernel
theorem d_Pe_takeIn_53 : decode prog_6_method_20_code 53 = .ok (.aload_n 1, 1) := by decide +kernel
theorem d_Pe_takeIn_54 : decode prog_6_method_20_code 54 = .ok (.getfield 169, 3) := by decide +kernel
theorem d_Pe_takeIn_57 : decode prog_6_method_20_code 57 = .ok (.if_icmp .ge (47), 3) := by decide +kernel
theorem d_Pe_takeIn_60 : decode prog_6_method_20_code 60 = .ok (.aload_n 1, 1) := by decide +kernel
theorem d_Pe_takeIn_61 : decode prog_6_method_20_code 61 = .ok (.iload_n 3, 1) := by decide +kernel
theorem d_Pe_takeIn_62 : decode prog_6_method_20_code 62 = .ok (.invokevirtual 172, 3) := by decide +kernel
theorem d_Pe_takeIn_65 : decode prog_6_method_20_code 65 = .ok (.istore 4, 2) := by decide +kernel
theorem d_Pe_takeIn_67 : decode prog_6_method_20_code 67 = .ok (.aload_n 0, 1) := by decide +kernel
theorem d_Pe_takeIn_68 : decode prog_6_method_20_code 68 = .ok (.getfield 39, 3) := by decide +kernel
theorem d_Pe_takeIn_71 : decode prog_6_method_20_code 71 = .ok (.aload_n 2, 1) := by decide +kernel
theorem d_Pe_takeIn_72 : decode prog_6_method_20_code 72 = .ok (.aload_n 0, 1) := by decide +kernel
theorem d_Pe_takeIn_73 : decode prog_6_method_20_code 73 = .ok (.getfield 22, 3) := by decide +kernel
theorem d_Pe_takeIn_76 : decode prog_6_method_20_code 76 = .ok (.iload 4, 2) := by decide +kernel
theorem d_Pe_takeIn_78 : decode prog_6_method_20_code 78 = .ok (.iaload, 1) := by decide +kernel
theorem d_Pe_takeIn_79 : decode prog_6_method_20_code 79 = .ok (.aload_n 0, 1) := by decide +kernel
theorem d_Pe_takeIn_80 : decode prog_6_method_20_code 80 = .ok (.getfield 22, 3) := by decide +kernel
theorem d_Pe_takeIn_83 : decode prog_6_method_20_code 83 = .ok (.iload 4, 2) := by decide +kernel
theorem d_Pe_takeIn_85 : decode prog_6_method_20_code 85 = .ok (.iconst 1, 1) := by decide +kernel
theorem d_Pe_takeIn_86 : decode prog_6_method_20_code 86 = .ok (.iadd, 1) := by decide +kernel
theorem d_Pe_takeIn_87 : decode prog_6_method_20_code 87 = .ok (.iaload, 1) := by decide +kernel
theorem d_Pe_takeIn_88 : decode prog_6_method_20_code 88 = .ok (.invokevirtual 175, 3) := by decide +kernel
theorem d_Pe_takeIn_91 : decode prog_6_method_20_code 91 = .ok (.aload_n 1, 1) := by decide +kernel
theorem d_Pe_takeIn_92 : decode prog_6_method_20_code 92 = .ok (.getfield 178, 3) := by decide +kernel
theorem d_Pe_takeIn_95 : decode prog_6_method_20_code 95 = .ok (.invokevirtual 182, 3) := by decide +kernel
theorem d_Pe_takeIn_98 : decode prog_6_method_20_code 98 = .ok (.iinc 3 (1), 3) := by decide +kernel
theorem d_Pe_takeIn_101 : decode prog_6_method_20_code 101 = .ok (.goto (-49), 3) := by decide +kernel
theorem d_Pe_takeIn_104 : decode prog_6_method_20_code 104 = .ok (.return_, 1) := by decide +kernel
def G_Pe_takeIn_52 (N : Nat → Nat) (Q : rs_Mem → Prop) (K52 : Nat → Nat → Nat → Int32 → rs_Mem → Prop) (v0 : Nat) (v1 : Nat) (v2 : Nat) (x3 : Int32) (σ : rs_Mem) : Prop :=
  (((rs_I σ v1 5) ≤ x3 → (Q σ)) ∧ (¬ ((rs_I σ v1 5) ≤ x3) → (F_Up_announcedAt N v1 x3 σ (fun x52 σ51 => (vp_in x52 (N (rs_R σ51 v0 12)) ∧ (vp_in (x52 + (1 : Int32)) (N (rs_R σ51 v0 12)) ∧ (F_Px_learn N v2 (rs_I σ51 (rs_R σ51 v0 12) x52.toNatClampNeg) (rs_I σ51 (rs_R σ51 v0 12) (x52 + (1 : Int32)).toNatClampNeg) σ51 (fun x59 σ58 => (F_In_announce N (rs_R σ51 v0 15) x59 (rs_R σ58 v1 0) σ58 (fun σ61 => (∀ x62 : Int32, x62 = x3 + (1 : Int32) → (K52 v0 v1 v2 x62 σ61))))))))))))
noncomputable def L_Pe_takeIn_52 (N : Nat → Nat) (Q : rs_Mem → Prop) (n : Nat) : Nat → Nat → Nat → Int32 → rs_Mem → Prop := Nat.rec (motive := fun _ => Nat → Nat → Nat → Int32 → rs_Mem → Prop) (fun _ _ _ _ _ => False) (fun _ K => G_Pe_takeIn_52 N Q K) n
def G_Pe_takeIn_2 (N : Nat → Nat) (Q : rs_Mem → Prop) (K2 : Nat → Nat → Nat → Int32 → rs_Mem → Prop) (v0 : Nat) (v1 : Nat) (v2 : Nat) (x3 : Int32) (σ : rs_Mem) : Prop :=
  (((rs_I σ v1 4) ≤ x3 → (∃ n : Nat, L_Pe_takeIn_52 N Q n v0 v1 v2 (0 : Int32) σ)) ∧ (¬ ((rs_I σ v1 4) ≤ x3) → (F_Up_withdrawnAt N v1 x3 σ (fun x52 σ51 => (vp_in x52 (N (rs_R σ51 v0 12)) ∧ (vp_in (x52 + (1 : Int32)) (N (rs_R σ51 v0 12)) ∧ (F_Px_find N v2 (rs_I σ51 (rs_R σ51 v0 12) x52.toNatClampNeg) (rs_I σ51 (rs_R σ51 v0 12) (x52 + (1 : Int32)).toNatClampNeg) σ51 (fun x59 σ58 => (F_In_withdraw N (rs_R σ51 v0 15) x59 σ58 (fun σ60 => (∀ x61 : Int32, x61 = x3 + (1 : Int32) → (K2 v0 v1 v2 x61 σ60))))))))))))
noncomputable def L_Pe_takeIn_2 (N : Nat → Nat) (Q : rs_Mem → Prop) (n : Nat) : Nat → Nat → Nat → Int32 → rs_Mem → Prop := Nat.rec (motive := fun _ => Nat → Nat → Nat → Int32 → rs_Mem → Prop) (fun _ _ _ _ _ => False) (fun _ K => G_Pe_takeIn_2 N Q K) n
def F_Pe_takeIn (N : Nat → Nat) (v0 : Nat) (v1 : Nat) (v2 : Nat) (σ : rs_Mem) (Q : rs_Mem → Prop) : Prop :=
  (∃ n : Nat, L_Pe_takeIn_2 N Q n v0 v1 v2 (0 : Int32) σ)
set_option maxRecDepth 20000 in
theorem JL_Pe_takeIn_52 {p : Program} {l : Launch} {e : Env} {s : State} {m : MethodId} {args : Array Value} {below : List Frame} {meth : Method} {c : Code} {G : rs_G} {Bm : Nat} {S : rs_Shp} {Q : rs_Mem → Prop} (C : rs_C "RouteSpeaker$Peer" prog_6_method_20_code 5 none G p s m meth c args) : ∀ n : Nat, ∀ (v0 : Nat) (v1 : Nat) (v2 : Nat) (x3 : Int32) (σ : rs_Mem) (H : Heap) (locs : List Loc) (ls : Array Slot), rs_Ok S 6 v0 → rs_Ok S 10 v1 → rs_Ok S 7 v2 → rs_H G Bm S σ H → rs_T S σ → va_S (rs_A Bm) s.heap H locs → lv_has ls 5 [(0, .ref (Bm + v0)), (1, .ref (Bm + v1)), (2, .ref (Bm + v2)), (3, .int x3)] → (L_Pe_takeIn_52 S.2.2 Q n) v0 v1 v2 x3 σ → W p l e { frames := 3, cells := 0, slots := 0, locals := 84 } s m args below meth c H locs 0 0 (MQ below (rs_Qv G Bm S Q) args s 0 0 (rs_A Bm)) (F0 m 52 ls []) := by
  have hx := C.1
  have hb := C.2.1
  intro n
  induction n with
  | zero => intros; rename_i hF; exact hF.elim
  | succ n hK52 =>
    intro v0 v1 v2 x3 σ H locs ls h_v0 h_v1 h_v2 hH hT hS hl hF
    replace hF : G_Pe_takeIn_52 S.2.2 Q (L_Pe_takeIn_52 S.2.2 Q n) v0 v1 v2 x3 σ := hF
    unfold G_Pe_takeIn_52 at hF
    refine lv_iload_n hx hb d_Pe_takeIn_52 rfl (lv_at hl 3 rfl) ?_
    refine lv_aload_n hx hb d_Pe_takeIn_53 rfl (lv_at hl 1 rfl) ?_
    refine rs_getI C hH h_v1 fk_10_5 tw_128 d_Pe_takeIn_54 ?_
    refine lv_icmp_ge hx hb d_Pe_takeIn_57 (tgt := 104) rfl (fun hc => ?_) (fun hc => ?_)
    · replace hF := hF.1 hc
      exact rs_vret C hH hT hS hF d_Pe_takeIn_104
    · replace hF := hF.2 hc
      refine lv_aload_n hx hb d_Pe_takeIn_60 rfl (lv_at hl 1 rfl) ?_
      refine lv_iload_n hx hb d_Pe_takeIn_61 rfl (lv_at hl 3 rfl) ?_
      refine rs_ci (rs_runV C hH hT hl (J_Up_announcedAt l h_v1 hF) rc_Up_announcedAt tw_805 tw_775 tw_776 h_v1 ⟨rfl, by decide, by decide⟩ rfl ⟨⟨rfl, rfl⟩, by decide, by decide, by decide⟩ (Nat.le_of_ble_eq_true rfl) rfl d_Pe_takeIn_62) hS (fun x52 σ51 H locs hH hT hS hF => ?_)
      refine lv_istore hx hb d_Pe_takeIn_65 hl (by decide) (lv' := [(4, .int x52), (0, .ref (Bm + v0)), (1, .ref (Bm + v1)), (2, .ref (Bm + v2)), (3, .int x3)]) rfl (fun ls hl => ?_)
      refine lv_aload_n hx hb d_Pe_takeIn_67 rfl (lv_at hl 1 rfl) ?_
      refine rs_getR C hH hT h_v0 fk_6_15 tw_282 d_Pe_takeIn_68 (fun h53 => ?_)
      refine lv_aload_n hx hb d_Pe_takeIn_71 rfl (lv_at hl 3 rfl) ?_
      refine lv_aload_n hx hb d_Pe_takeIn_72 rfl (lv_at hl 1 rfl) ?_
      refine rs_getR C hH hT h_v0 fk_6_12 tw_278 d_Pe_takeIn_73 (fun h54 => ?_)
      refine lv_iload hx hb d_Pe_takeIn_76 (lv_at hl 0 rfl) ?_
      obtain ⟨g55, hF⟩ := hF
      refine rs_iald C hH h54 g55 d_Pe_takeIn_78 ?_
      refine lv_aload_n hx hb d_Pe_takeIn_79 rfl (lv_at hl 1 rfl) ?_
      refine rs_getR C hH hT h_v0 fk_6_12 tw_278 d_Pe_takeIn_80 (fun h56 => ?_)
      refine lv_iload hx hb d_Pe_takeIn_83 (lv_at hl 0 rfl) ?_
      refine lv_iconst hx hb d_Pe_takeIn_85 ki_1 ?_
      refine lv_iadd hx hb d_Pe_takeIn_86 ?_
      obtain ⟨g57, hF⟩ := hF
      refine rs_iald C hH h56 g57 d_Pe_takeIn_87 ?_
      refine rs_ci (rs_runV C hH hT hl (J_Px_learn l h_v2 hF) rc_Px_learn tw_806 tw_658 tw_659 h_v2 ⟨rfl, by decide, by decide⟩ rfl ⟨⟨rfl, rfl⟩, by decide, by decide, by decide⟩ (Nat.le_of_ble_eq_true rfl) rfl d_Pe_takeIn_88) hS (fun x59 σ58 H locs hH hT hS hF => ?_)
      refine lv_aload_n hx hb d_Pe_takeIn_91 rfl (lv_at hl 2 rfl) ?_
      refine rs_getR C hH hT h_v1 fk_10_0 tw_121 d_Pe_takeIn_92 (fun h60 => ?_)
      refine rs_cv (rs_runV C hH hT hl (J_In_announce l h53 h60 hF) rc_In_announce tw_807 tw_808 tw_809 h53 ⟨rfl, by decide, by decide⟩ rfl ⟨⟨rfl, rfl⟩, by decide, by decide, by decide⟩ (Nat.le_of_ble_eq_true rfl) rfl d_Pe_takeIn_95) hS (fun σ61 H locs hH hT hS hF => ?_)
      obtain ⟨x62, ex62⟩ : ∃ z : Int32, z = x3 + (1 : Int32) := ⟨_, rfl⟩
      replace hF := hF x62 ex62
      refine lv_iinc hx hb d_Pe_takeIn_98 hl (k := 4) rfl (v := x62) (by rw [ki_1, ex62]) (by decide) (lv' := [(3, .int x62), (4, .int x52), (0, .ref (Bm + v0)), (1, .ref (Bm + v1)), (2, .ref (Bm + v2))]) rfl (fun ls hl => ?_)
      refine lv_goto hx hb d_Pe_takeIn_101 (tgt := 52) rfl ?_
      exact hK52 v0 v1 v2 x62 σ61 _ _ _ h_v0 h_v1 h_v2 hH hT hS (lv_sub hl [2, 3, 4, 0] rfl) hF
set_option maxRecDepth 20000 in
theorem JL_Pe_takeIn_2 {p : Program} {l : Launch} {e : Env} {s : State} {m : MethodId} {args : Array Value} {below : List Frame} {meth : Method} {c : Code} {G : rs_G} {Bm : Nat} {S : rs_Shp} {Q : rs_Mem → Prop} (C : rs_C "RouteSpeaker$Peer" prog_6_method_20_code 5 none G p s m meth c args) : ∀ n : Nat, ∀ (v0 : Nat) (v1 : Nat) (v2 : Nat) (x3 : Int32) (σ : rs_Mem) (H : Heap) (locs : List Loc) (ls : Array Slot), rs_Ok S 6 v0 → rs_Ok S 10 v1 → rs_Ok S 7 v2 → rs_H G Bm S σ H → rs_T S σ → va_S (rs_A Bm) s.heap H locs → lv_has ls 5 [(0, .ref (Bm + v0)), (1, .ref (Bm + v1)), (2, .ref (Bm + v2)), (3, .int x3)] → (L_Pe_takeIn_2 S.2.2 Q n) v0 v1 v2 x3 σ → W p l e { frames := 3, cells := 0, slots := 0, locals := 84 } s m args below meth c H locs 0 0 (MQ below (rs_Qv G Bm S Q) args s 0 0 (rs_A Bm)) (F0 m 2 ls []) := by
  have hx := C.1
  have hb := C.2.1
  intro n
  induction n with
  | zero => intros; rename_i hF; exact hF.elim
  | succ n hK2 =>
    intro v0 v1 v2 x3 σ H locs ls h_v0 h_v1 h_v2 hH hT hS hl hF
    replace hF : G_Pe_takeIn_2 S.2.2 Q (L_Pe_takeIn_2 S.2.2 Q n) v0 v1 v2 x3 σ := hF
    unfold G_Pe_takeIn_2 at hF
    refine lv_iload_n hx hb d_Pe_takeIn_2 rfl (lv_at hl 3 rfl) ?_
    refine lv_aload_n hx hb d_Pe_takeIn_3 rfl (lv_at hl 1 rfl) ?_
    refine rs_getI C hH h_v1 fk_10_4 tw_126 d_Pe_takeIn_4 ?_
    refine lv_icmp_ge hx hb d_Pe_takeIn_7 (tgt := 50) rfl (fun hc => ?_) (fun hc => ?_)
    · replace hF := hF.1 hc
      refine lv_iconst hx hb d_Pe_takeIn_50 ki_0 ?_
      refine lv_istore_n hx hb d_Pe_takeIn_51 rfl hl (by decide) (lv' := [(3, .int (0 : Int32)), (0, .ref (Bm + v0)), (1, .ref (Bm + v1)), (2, .ref (Bm + v2))]) rfl (fun ls hl => ?_)
      obtain ⟨n, hF⟩ := hF
      exact JL_Pe_takeIn_52 C n v0 v1 v2 (0 : Int32) σ _ _ _ h_v0 h_v1 h_v2 hH hT hS (lv_sub hl [1, 2, 3, 0] rfl) hF
    · replace hF := hF.2 hc
      refine lv_aload_n hx hb d_Pe_takeIn_10 rfl (lv_at hl 1 rfl) ?_
      refine lv_iload_n hx hb d_Pe_takeIn_11 rfl (lv_at hl 3 rfl) ?_
      refine rs_ci (rs_runV C hH hT hl (J_Up_withdrawnAt l h_v1 hF) rc_Up_withdrawnAt tw_792 tw_770 tw_771 h_v1 ⟨rfl, by decide, by decide⟩ rfl ⟨⟨rfl, rfl⟩, by decide, by decide, by decide⟩ (Nat.le_of_ble_eq_true rfl) rfl d_Pe_takeIn_12) hS (fun x52 σ51 H locs hH hT hS hF => ?_)
      refine lv_istore hx hb d_Pe_takeIn_15 hl (by decide) (lv' := [(4, .int x52), (0, .ref (Bm + v0)), (1, .ref (Bm + v1)), (2, .ref (Bm + v2)), (3, .int x3)]) rfl (fun ls hl => ?_)
      refine lv_aload_n hx hb d_Pe_takeIn_17 rfl (lv_at hl 1 rfl) ?_
      refine rs_getR C hH hT h_v0 fk_6_15 tw_282 d_Pe_takeIn_18 (fun h53 => ?_)
      refine lv_aload_n hx hb d_Pe_takeIn_21 rfl (lv_at hl 3 rfl) ?_
      refine lv_aload_n hx hb d_Pe_takeIn_22 rfl (lv_at hl 1 rfl) ?_
      refine rs_getR C hH hT h_v0 fk_6_12 tw_278 d_Pe_takeIn_23 (fun h54 => ?_)
      refine lv_iload hx hb d_Pe_takeIn_26 (lv_at hl 0 rfl) ?_
      obtain ⟨g55, hF⟩ := hF
      refine rs_iald C hH h54 g55 d_Pe_takeIn_28 ?_
      refine lv_aload_n hx hb d_Pe_takeIn_29 rfl (lv_at hl 1 rfl) ?_
      refine rs_getR C hH hT h_v0 fk_6_12 tw_278 d_Pe_takeIn_30 (fun h56 => ?_)
      refine lv_iload hx hb d_Pe_takeIn_33 (lv_at hl 0 rfl) ?_
      refine lv_iconst hx hb d_Pe_takeIn_35 ki_1 ?_
      refine lv_iadd hx hb d_Pe_takeIn_36 ?_
      obtain ⟨g57, hF⟩ := hF
      refine rs_iald C hH h56 g57 d_Pe_takeIn_37 ?_
      refine rs_ci (rs_runV C hH hT hl (J_Px_find l h_v2 hF) rc_Px_find tw_793 tw_662 tw_663 h_v2 ⟨rfl, by decide, by decide⟩ rfl ⟨⟨rfl, rfl⟩, by decide, by decide, by decide⟩ (Nat.le_of_ble_eq_true rfl) rfl d_Pe_takeIn_38) hS (fun x59 σ58 H locs hH hT hS hF => ?_)
      refine rs_cv (rs_runV C hH hT hl (J_In_withdraw l h53 hF) rc_In_withdraw tw_794 tw_795 tw_796 h53 ⟨rfl, by decide, by decide⟩ rfl ⟨⟨rfl, rfl⟩, by decide, by decide, by decide⟩ (Nat.le_of_ble_eq_true rfl) rfl d_Pe_takeIn_41) hS (fun σ60 H locs hH hT hS hF => ?_)
      obtain ⟨x61, ex61⟩ : ∃ z : Int32, z = x3 + (1 : Int32) := ⟨_, rfl⟩
      replace hF := hF x61 ex61
      refine lv_iinc hx hb d_Pe_takeIn_44 hl (k := 4) rfl (v := x61) (by rw [ki_1, ex61]) (by decide) (lv' := [(3, .int x61), (4, .int x52), (0, .ref (Bm + v0)), (1, .ref (Bm + v1)), (2, .ref (Bm + v2))]) rfl (fun ls hl => ?_)
      refine lv_goto hx hb d_Pe_takeIn_47 (tgt := 2) rfl ?_
      exact hK2 v0 v1 v2 x61 σ60 _ _ _ h_v0 h_v1 h_v2 hH hT hS (lv_sub hl [2, 3, 4, 0] rfl) hF
abbrev y_Pe_takeIn : MethodName := ({ cls := "RouteSpeaker$Peer", name := "takeIn", desc := "(LRouteSpeaker$Update;LRouteSpeaker$Prefixes;)V" } : Jvm.MethodName)
theorem rc_Pe_takeIn : rs_Cal y_Pe_takeIn prog_6_method_20_code 5 none 2 := ⟨tw_791, tw_7, by decide, by decide, by decide +kernel⟩
set_option maxRecDepth 20000 in
theorem J_Pe_takeIn (l : Launch) {G : rs_G} {Bm : Nat} {S : rs_Shp} {v0 : Nat} {v1 : Nat} {v2 : Nat} {σ : rs_Mem} {Q : rs_Mem → Prop} (h_v0 : rs_Ok S 6 v0) (h_v1 : rs_Ok S 10 v1) (h_v2 : rs_Ok S 7 v2) (hF : F_Pe_takeIn S.2.2 v0 v1 v2 σ Q) :
    Met l y_Pe_takeIn (rs_ws y_Pe_takeIn prog_6_method_20_code 5 none) { frames := 3, cells := 0, slots := 0, locals := 84 } (rs_P G Bm S σ [.ref (Bm + v0), .ref (Bm + v1), .ref (Bm + v2)]) (rs_Qv G Bm S Q) 0 0 (rs_A Bm) := by
  refine rs_met (own := "RouteSpeaker$Peer") (by decide) rfl (Nat.le_of_ble_eq_true rfl) (fun p e s m below meth c ls C hl hH hT hS => ?_)
  replace hl : lv_has ls 5 [(0, .ref (Bm + v0)), (1, .ref (Bm + v1)), (2, .ref (Bm + v2))] := hl
  have hx := C.1
  have hb := C.2.1
  unfold F_Pe_takeIn at hF
  refine lv_iconst hx hb d_Pe_takeIn_0 ki_0 ?_
  refine lv_istore_n hx hb d_Pe_takeIn_1 rfl hl (by decide) (lv' := [(3, .int (0 : Int32)), (0, .ref (Bm + v0)), (1, .ref (Bm + v1)), (2, .ref (Bm + v2))]) rfl (fun ls hl => ?_)
  obtain ⟨n, hF⟩ := hF
  exact JL_Pe_takeIn_2 C n v0 v1 v2 (0 : Int32) σ _ _ _ h_v0 h_v1 h_v2 hH hT hS (lv_sub hl [1, 2, 3, 0] rfl) hF
