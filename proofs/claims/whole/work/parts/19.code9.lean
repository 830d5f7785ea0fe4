/-! RouteSpeakerModel.tellOne(II)Z -/
theorem d_Mo_tellOne_0 : decode prog_12_method_60_code 0 = .ok (.bipush (12), 2) := by decide +kernel
theorem d_Mo_tellOne_2 : decode prog_12_method_60_code 2 = .ok (.iload_n 1, 1) := by decide +kernel
theorem d_Mo_tellOne_3 : decode prog_12_method_60_code 3 = .ok (.imul, 1) := by decide +kernel
theorem d_Mo_tellOne_4 : decode prog_12_method_60_code 4 = .ok (.iload_n 2, 1) := by decide +kernel
theorem d_Mo_tellOne_5 : decode prog_12_method_60_code 5 = .ok (.iadd, 1) := by decide +kernel
theorem d_Mo_tellOne_6 : decode prog_12_method_60_code 6 = .ok (.istore_n 3, 1) := by decide +kernel
theorem d_Mo_tellOne_7 : decode prog_12_method_60_code 7 = .ok (.aload_n 0, 1) := by decide +kernel
theorem d_Mo_tellOne_8 : decode prog_12_method_60_code 8 = .ok (.iload_n 1, 1) := by decide +kernel
theorem d_Mo_tellOne_9 : decode prog_12_method_60_code 9 = .ok (.iload_n 2, 1) := by decide +kernel
theorem d_Mo_tellOne_10 : decode prog_12_method_60_code 10 = .ok (.invokevirtual 295, 3) := by decide +kernel
theorem d_Mo_tellOne_13 : decode prog_12_method_60_code 13 = .ok (.istore 4, 2) := by decide +kernel
theorem d_Mo_tellOne_15 : decode prog_12_method_60_code 15 = .ok (.aload_n 0, 1) := by decide +kernel
theorem d_Mo_tellOne_16 : decode prog_12_method_60_code 16 = .ok (.iload_n 3, 1) := by decide +kernel
theorem d_Mo_tellOne_17 : decode prog_12_method_60_code 17 = .ok (.iload 4, 2) := by decide +kernel
theorem d_Mo_tellOne_19 : decode prog_12_method_60_code 19 = .ok (.invokevirtual 298, 3) := by decide +kernel
theorem d_Mo_tellOne_22 : decode prog_12_method_60_code 22 = .ok (.ifCond .eq (5), 3) := by decide +kernel
theorem d_Mo_tellOne_25 : decode prog_12_method_60_code 25 = .ok (.iconst 1, 1) := by decide +kernel
theorem d_Mo_tellOne_26 : decode prog_12_method_60_code 26 = .ok (.ireturn, 1) := by decide +kernel
theorem d_Mo_tellOne_27 : decode prog_12_method_60_code 27 = .ok (.aload_n 0, 1) := by decide +kernel
theorem d_Mo_tellOne_28 : decode prog_12_method_60_code 28 = .ok (.iconst 2, 1) := by decide +kernel
theorem d_Mo_tellOne_29 : decode prog_12_method_60_code 29 = .ok (.invokevirtual 148, 3) := by decide +kernel
theorem d_Mo_tellOne_32 : decode prog_12_method_60_code 32 = .ok (.aload_n 0, 1) := by decide +kernel
theorem d_Mo_tellOne_33 : decode prog_12_method_60_code 33 = .ok (.iload 4, 2) := by decide +kernel
theorem d_Mo_tellOne_35 : decode prog_12_method_60_code 35 = .ok (.ifCond .ge (7), 3) := by decide +kernel
theorem d_Mo_tellOne_38 : decode prog_12_method_60_code 38 = .ok (.iconst 1, 1) := by decide +kernel
theorem d_Mo_tellOne_39 : decode prog_12_method_60_code 39 = .ok (.goto (4), 3) := by decide +kernel
theorem d_Mo_tellOne_42 : decode prog_12_method_60_code 42 = .ok (.iconst 0, 1) := by decide +kernel
theorem d_Mo_tellOne_43 : decode prog_12_method_60_code 43 = .ok (.invokevirtual 151, 3) := by decide +kernel
theorem d_Mo_tellOne_46 : decode prog_12_method_60_code 46 = .ok (.iload 4, 2) := by decide +kernel
theorem d_Mo_tellOne_48 : decode prog_12_method_60_code 48 = .ok (.ifCond .ge (23), 3) := by decide +kernel
theorem d_Mo_tellOne_51 : decode prog_12_method_60_code 51 = .ok (.aload_n 0, 1) := by decide +kernel
theorem d_Mo_tellOne_52 : decode prog_12_method_60_code 52 = .ok (.aload_n 0, 1) := by decide +kernel
theorem d_Mo_tellOne_53 : decode prog_12_method_60_code 53 = .ok (.getfield 67, 3) := by decide +kernel
theorem d_Mo_tellOne_56 : decode prog_12_method_60_code 56 = .ok (.iload_n 2, 1) := by decide +kernel
theorem d_Mo_tellOne_57 : decode prog_12_method_60_code 57 = .ok (.iaload, 1) := by decide +kernel
theorem d_Mo_tellOne_58 : decode prog_12_method_60_code 58 = .ok (.invokevirtual 151, 3) := by decide +kernel
theorem d_Mo_tellOne_61 : decode prog_12_method_60_code 61 = .ok (.aload_n 0, 1) := by decide +kernel
theorem d_Mo_tellOne_62 : decode prog_12_method_60_code 62 = .ok (.aload_n 0, 1) := by decide +kernel
theorem d_Mo_tellOne_63 : decode prog_12_method_60_code 63 = .ok (.getfield 70, 3) := by decide +kernel
theorem d_Mo_tellOne_66 : decode prog_12_method_60_code 66 = .ok (.iload_n 2, 1) := by decide +kernel
theorem d_Mo_tellOne_67 : decode prog_12_method_60_code 67 = .ok (.iaload, 1) := by decide +kernel
theorem d_Mo_tellOne_68 : decode prog_12_method_60_code 68 = .ok (.invokevirtual 151, 3) := by decide +kernel
theorem d_Mo_tellOne_71 : decode prog_12_method_60_code 71 = .ok (.aload_n 0, 1) := by decide +kernel
theorem d_Mo_tellOne_72 : decode prog_12_method_60_code 72 = .ok (.iload 4, 2) := by decide +kernel
theorem d_Mo_tellOne_74 : decode prog_12_method_60_code 74 = .ok (.ifCond .ge (7), 3) := by decide +kernel
theorem d_Mo_tellOne_77 : decode prog_12_method_60_code 77 = .ok (.iconst 0, 1) := by decide +kernel
theorem d_Mo_tellOne_78 : decode prog_12_method_60_code 78 = .ok (.goto (5), 3) := by decide +kernel
theorem d_Mo_tellOne_81 : decode prog_12_method_60_code 81 = .ok (.iload 4, 2) := by decide +kernel
theorem d_Mo_tellOne_83 : decode prog_12_method_60_code 83 = .ok (.invokevirtual 151, 3) := by decide +kernel
theorem d_Mo_tellOne_86 : decode prog_12_method_60_code 86 = .ok (.iconst 0, 1) := by decide +kernel
theorem d_Mo_tellOne_87 : decode prog_12_method_60_code 87 = .ok (.istore 5, 2) := by decide +kernel
theorem d_Mo_tellOne_89 : decode prog_12_method_60_code 89 = .ok (.iload 5, 2) := by decide +kernel
theorem d_Mo_tellOne_91 : decode prog_12_method_60_code 91 = .ok (.iload 4, 2) := by decide +kernel
theorem d_Mo_tellOne_93 : decode prog_12_method_60_code 93 = .ok (.if_icmp .ge (39), 3) := by decide +kernel
theorem d_Mo_tellOne_96 : decode prog_12_method_60_code 96 = .ok (.aload_n 0, 1) := by decide +kernel
theorem d_Mo_tellOne_97 : decode prog_12_method_60_code 97 = .ok (.aload_n 0, 1) := by decide +kernel
theorem d_Mo_tellOne_98 : decode prog_12_method_60_code 98 = .ok (.getfield 117, 3) := by decide +kernel
theorem d_Mo_tellOne_101 : decode prog_12_method_60_code 101 = .ok (.iload 5, 2) := by decide +kernel
theorem d_Mo_tellOne_103 : decode prog_12_method_60_code 103 = .ok (.iaload, 1) := by decide +kernel
theorem d_Mo_tellOne_104 : decode prog_12_method_60_code 104 = .ok (.invokevirtual 151, 3) := by decide +kernel
theorem d_Mo_tellOne_107 : decode prog_12_method_60_code 107 = .ok (.aload_n 0, 1) := by decide +kernel
theorem d_Mo_tellOne_108 : decode prog_12_method_60_code 108 = .ok (.getfield 114, 3) := by decide +kernel
theorem d_Mo_tellOne_111 : decode prog_12_method_60_code 111 = .ok (.bipush (40), 2) := by decide +kernel
theorem d_Mo_tellOne_113 : decode prog_12_method_60_code 113 = .ok (.iload_n 3, 1) := by decide +kernel
theorem d_Mo_tellOne_114 : decode prog_12_method_60_code 114 = .ok (.imul, 1) := by decide +kernel
theorem d_Mo_tellOne_115 : decode prog_12_method_60_code 115 = .ok (.iload 5, 2) := by decide +kernel
theorem d_Mo_tellOne_117 : decode prog_12_method_60_code 117 = .ok (.iadd, 1) := by decide +kernel
theorem d_Mo_tellOne_118 : decode prog_12_method_60_code 118 = .ok (.aload_n 0, 1) := by decide +kernel
theorem d_Mo_tellOne_119 : decode prog_12_method_60_code 119 = .ok (.getfield 117, 3) := by decide +kernel
theorem d_Mo_tellOne_122 : decode prog_12_method_60_code 122 = .ok (.iload 5, 2) := by decide +kernel
theorem d_Mo_tellOne_124 : decode prog_12_method_60_code 124 = .ok (.iaload, 1) := by decide +kernel
theorem d_Mo_tellOne_125 : decode prog_12_method_60_code 125 = .ok (.iastore, 1) := by decide +kernel
theorem d_Mo_tellOne_126 : decode prog_12_method_60_code 126 = .ok (.iinc 5 (1), 3) := by decide +kernel
theorem d_Mo_tellOne_129 : decode prog_12_method_60_code 129 = .ok (.goto (-40), 3) := by decide +kernel
theorem d_Mo_tellOne_132 : decode prog_12_method_60_code 132 = .ok (.iload 4, 2) := by decide +kernel
theorem d_Mo_tellOne_134 : decode prog_12_method_60_code 134 = .ok (.ifCond .lt (23), 3) := by decide +kernel
theorem d_Mo_tellOne_137 : decode prog_12_method_60_code 137 = .ok (.aload_n 0, 1) := by decide +kernel
theorem d_Mo_tellOne_138 : decode prog_12_method_60_code 138 = .ok (.aload_n 0, 1) := by decide +kernel
theorem d_Mo_tellOne_139 : decode prog_12_method_60_code 139 = .ok (.getfield 67, 3) := by decide +kernel
theorem d_Mo_tellOne_142 : decode prog_12_method_60_code 142 = .ok (.iload_n 2, 1) := by decide +kernel
theorem d_Mo_tellOne_143 : decode prog_12_method_60_code 143 = .ok (.iaload, 1) := by decide +kernel
theorem d_Mo_tellOne_144 : decode prog_12_method_60_code 144 = .ok (.invokevirtual 151, 3) := by decide +kernel
theorem d_Mo_tellOne_147 : decode prog_12_method_60_code 147 = .ok (.aload_n 0, 1) := by decide +kernel
theorem d_Mo_tellOne_148 : decode prog_12_method_60_code 148 = .ok (.aload_n 0, 1) := by decide +kernel
theorem d_Mo_tellOne_149 : decode prog_12_method_60_code 149 = .ok (.getfield 70, 3) := by decide +kernel
theorem d_Mo_tellOne_152 : decode prog_12_method_60_code 152 = .ok (.iload_n 2, 1) := by decide +kernel
theorem d_Mo_tellOne_153 : decode prog_12_method_60_code 153 = .ok (.iaload, 1) := by decide +kernel
theorem d_Mo_tellOne_154 : decode prog_12_method_60_code 154 = .ok (.invokevirtual 151, 3) := by decide +kernel
theorem d_Mo_tellOne_157 : decode prog_12_method_60_code 157 = .ok (.aload_n 0, 1) := by decide +kernel
theorem d_Mo_tellOne_158 : decode prog_12_method_60_code 158 = .ok (.getfield 111, 3) := by decide +kernel
theorem d_Mo_tellOne_161 : decode prog_12_method_60_code 161 = .ok (.iload_n 3, 1) := by decide +kernel
theorem d_Mo_tellOne_162 : decode prog_12_method_60_code 162 = .ok (.iload 4, 2) := by decide +kernel
theorem d_Mo_tellOne_164 : decode prog_12_method_60_code 164 = .ok (.iastore, 1) := by decide +kernel
theorem d_Mo_tellOne_165 : decode prog_12_method_60_code 165 = .ok (.aload_n 0, 1) := by decide +kernel
theorem d_Mo_tellOne_166 : decode prog_12_method_60_code 166 = .ok (.iload_n 1, 1) := by decide +kernel
theorem d_Mo_tellOne_167 : decode prog_12_method_60_code 167 = .ok (.invokevirtual 154, 3) := by decide +kernel
theorem d_Mo_tellOne_170 : decode prog_12_method_60_code 170 = .ok (.ireturn, 1) := by decide +kernel
def B_Mo_tellOne_157 (N : Nat → Nat) (Q : Int32 → rs_Mem → Prop) (v0 : Nat) (x1 : Int32) (x3 : Int32) (x4 : Int32) (σ : rs_Mem) : Prop :=
  (vp_in x3 (N (rs_R σ v0 36)) ∧ ∀ σ53 : rs_Mem, σ53 = rs_sI σ (rs_R σ v0 36) x3.toNatClampNeg x4 → (F_Mo_send N v0 x1 σ53 (fun x55 σ54 => ((x55 &&& 1 = x55) ∧ Q x55 σ54))))
def G_Mo_tellOne_89 (N : Nat → Nat) (Q : Int32 → rs_Mem → Prop) (K89 : Nat → Int32 → Int32 → Int32 → Int32 → Int32 → rs_Mem → Prop) (v0 : Nat) (x1 : Int32) (x2 : Int32) (x3 : Int32) (x4 : Int32) (x5 : Int32) (σ : rs_Mem) : Prop :=
  ((x4 ≤ x5 → ((x4 < 0 → (B_Mo_tellOne_157 N Q v0 x1 x3 x4 σ)) ∧ (¬ (x4 < 0) → (vp_in x2 (N (rs_R σ v0 22)) ∧ (F_Mo_add N v0 (rs_I σ (rs_R σ v0 22) x2.toNatClampNeg) σ (fun σ53 => (vp_in x2 (N (rs_R σ53 v0 23)) ∧ (F_Mo_add N v0 (rs_I σ53 (rs_R σ53 v0 23) x2.toNatClampNeg) σ53 (fun σ56 => (B_Mo_tellOne_157 N Q v0 x1 x3 x4 σ56)))))))))) ∧ (¬ (x4 ≤ x5) → (vp_in x5 (N (rs_R σ v0 38)) ∧ (F_Mo_add N v0 (rs_I σ (rs_R σ v0 38) x5.toNatClampNeg) σ (fun σ53 => (vp_in x5 (N (rs_R σ53 v0 38)) ∧ (vp_in (((40 : Int32) * x3) + x5) (N (rs_R σ53 v0 37)) ∧ ∀ σ58 : rs_Mem, σ58 = rs_sI σ53 (rs_R σ53 v0 37) (((40 : Int32) * x3) + x5).toNatClampNeg (rs_I σ53 (rs_R σ53 v0 38) x5.toNatClampNeg) → (∀ x59 : Int32, x59 = x5 + (1 : Int32) → (K89 v0 x1 x2 x3 x4 x59 σ58)))))))))
noncomputable def L_Mo_tellOne_89 (N : Nat → Nat) (Q : Int32 → rs_Mem → Prop) (n : Nat) : Nat → Int32 → Int32 → Int32 → Int32 → Int32 → rs_Mem → Prop := Nat.rec (motive := fun _ => Nat → Int32 → Int32 → Int32 → Int32 → Int32 → rs_Mem → Prop) (fun _ _ _ _ _ _ _ => False) (fun _ K => G_Mo_tellOne_89 N Q K) n
def B_Mo_tellOne_83 (N : Nat → Nat) (Q : Int32 → rs_Mem → Prop) (v0 : Nat) (x1 : Int32) (x2 : Int32) (x3 : Int32) (x4 : Int32) (w0 : Nat) (y1 : Int32) (σ : rs_Mem) : Prop :=
  (F_Mo_add N w0 y1 σ (fun σ51 => (∃ n : Nat, L_Mo_tellOne_89 N Q n v0 x1 x2 x3 x4 (0 : Int32) σ51)))
def B_Mo_tellOne_71 (N : Nat → Nat) (Q : Int32 → rs_Mem → Prop) (v0 : Nat) (x1 : Int32) (x2 : Int32) (x3 : Int32) (x4 : Int32) (σ : rs_Mem) : Prop :=
  ((0 ≤ x4 → (B_Mo_tellOne_83 N Q v0 x1 x2 x3 x4 v0 x4 σ)) ∧ (¬ (0 ≤ x4) → (B_Mo_tellOne_83 N Q v0 x1 x2 x3 x4 v0 (0 : Int32) σ)))
def B_Mo_tellOne_43 (N : Nat → Nat) (Q : Int32 → rs_Mem → Prop) (v0 : Nat) (x1 : Int32) (x2 : Int32) (x3 : Int32) (x4 : Int32) (w0 : Nat) (y1 : Int32) (σ : rs_Mem) : Prop :=
  (F_Mo_add N w0 y1 σ (fun σ51 => ((0 ≤ x4 → (B_Mo_tellOne_71 N Q v0 x1 x2 x3 x4 σ51)) ∧ (¬ (0 ≤ x4) → (vp_in x2 (N (rs_R σ51 v0 22)) ∧ (F_Mo_add N v0 (rs_I σ51 (rs_R σ51 v0 22) x2.toNatClampNeg) σ51 (fun σ54 => (vp_in x2 (N (rs_R σ54 v0 23)) ∧ (F_Mo_add N v0 (rs_I σ54 (rs_R σ54 v0 23) x2.toNatClampNeg) σ54 (fun σ57 => (B_Mo_tellOne_71 N Q v0 x1 x2 x3 x4 σ57)))))))))))
def F_Mo_tellOne (N : Nat → Nat) (v0 : Nat) (x1 : Int32) (x2 : Int32) (σ : rs_Mem) (Q : Int32 → rs_Mem → Prop) : Prop :=
  (∀ x51 : Int32, x51 = (((12 : Int32) * x1) + x2) → (F_Mo_due N v0 x1 x2 σ (fun x53 σ52 => (F_Mo_isTold N v0 x51 x53 σ52 (fun x55 σ54 => ((x55 = 0 → (F_Mo_begin N v0 (2 : Int32) σ54 (fun σ56 => ((0 ≤ x53 → (B_Mo_tellOne_43 N Q v0 x1 x2 x51 x53 v0 (0 : Int32) σ56)) ∧ (¬ (0 ≤ x53) → (B_Mo_tellOne_43 N Q v0 x1 x2 x51 x53 v0 (1 : Int32) σ56)))))) ∧ (¬ (x55 = 0) → (Q (1 : Int32) σ54))))))))
set_option maxRecDepth 20000 in
theorem JB_Mo_tellOne_157 {p : Program} {l : Launch} {e : Env} {s : State} {m : MethodId} {args : Array Value} {below : List Frame} {meth : Method} {c : Code} {G : rs_G} {Bm : Nat} {S : rs_Shp} {Q : Int32 → rs_Mem → Prop} (C : rs_C "RouteSpeakerModel" prog_12_method_60_code 6 (some .boolean) G p s m meth c args) (v0 : Nat) (x1 : Int32) (x3 : Int32) (x4 : Int32) (σ : rs_Mem) (H : Heap) (locs : List Loc) (ls : Array Slot) (h_v0 : rs_Ok S 11 v0) (hH : rs_H G Bm S σ H) (hT : rs_T S σ) (hS : va_S (rs_A Bm) s.heap H locs) (hl : lv_has ls 6 [(0, .ref (Bm + v0)), (1, .int x1), (3, .int x3), (4, .int x4)]) (hF : B_Mo_tellOne_157 S.2.2 Q v0 x1 x3 x4 σ) :
    W p l e { frames := 7, cells := 0, slots := 0, locals := 161 } s m args below meth c H locs 0 0 (MQ below (rs_Qi G Bm S Q) args s 0 0 (rs_A Bm)) (F0 m 157 ls []) := by
  have hx := C.1
  have hb := C.2.1
  unfold B_Mo_tellOne_157 at hF
  refine lv_aload_n hx hb d_Mo_tellOne_157 rfl (lv_at hl 0 rfl) ?_
  refine rs_getR C hH hT h_v0 fk_11_36 tw_935 d_Mo_tellOne_158 (fun h51 => ?_)
  refine lv_iload_n hx hb d_Mo_tellOne_161 rfl (lv_at hl 2 rfl) ?_
  refine lv_iload hx hb d_Mo_tellOne_162 (lv_at hl 3 rfl) ?_
  obtain ⟨g52, hF⟩ := hF
  refine rs_iast C hH hT hS h51 g52 d_Mo_tellOne_164 (fun σ53 H locs eσ53 hH hT hS => ?_)
  replace hF := hF σ53 eσ53
  refine lv_aload_n hx hb d_Mo_tellOne_165 rfl (lv_at hl 0 rfl) ?_
  refine lv_iload_n hx hb d_Mo_tellOne_166 rfl (lv_at hl 1 rfl) ?_
  refine rs_ci (rs_runV C hH hT hl (J_Mo_send l h_v0 hF) rc_Mo_send tw_1124 tw_1126 ts_54 h_v0 ⟨rfl, by decide, by decide⟩ rfl ⟨⟨rfl, rfl⟩, by decide, by decide, by decide⟩ (Nat.le_of_ble_eq_true rfl) rfl d_Mo_tellOne_167) hS (fun x55 σ54 H locs hH hT hS hF => ?_)
  exact rs_zret C hH hT hS hF.1 hF.2 d_Mo_tellOne_170
set_option maxRecDepth 20000 in
theorem JL_Mo_tellOne_89 {p : Program} {l : Launch} {e : Env} {s : State} {m : MethodId} {args : Array Value} {below : List Frame} {meth : Method} {c : Code} {G : rs_G} {Bm : Nat} {S : rs_Shp} {Q : Int32 → rs_Mem → Prop} (C : rs_C "RouteSpeakerModel" prog_12_method_60_code 6 (some .boolean) G p s m meth c args) : ∀ n : Nat, ∀ (v0 : Nat) (x1 : Int32) (x2 : Int32) (x3 : Int32) (x4 : Int32) (x5 : Int32) (σ : rs_Mem) (H : Heap) (locs : List Loc) (ls : Array Slot), rs_Ok S 11 v0 → rs_H G Bm S σ H → rs_T S σ → va_S (rs_A Bm) s.heap H locs → lv_has ls 6 [(0, .ref (Bm + v0)), (1, .int x1), (2, .int x2), (3, .int x3), (4, .int x4), (5, .int x5)] → (L_Mo_tellOne_89 S.2.2 Q n) v0 x1 x2 x3 x4 x5 σ → W p l e { frames := 7, cells := 0, slots := 0, locals := 161 } s m args below meth c H locs 0 0 (MQ below (rs_Qi G Bm S Q) args s 0 0 (rs_A Bm)) (F0 m 89 ls []) := by
  have hx := C.1
  have hb := C.2.1
  intro n
  induction n with
  | zero => intros; rename_i hF; exact hF.elim
  | succ n hK89 =>
    intro v0 x1 x2 x3 x4 x5 σ H locs ls h_v0 hH hT hS hl hF
    replace hF : G_Mo_tellOne_89 S.2.2 Q (L_Mo_tellOne_89 S.2.2 Q n) v0 x1 x2 x3 x4 x5 σ := hF
    unfold G_Mo_tellOne_89 at hF
    refine lv_iload hx hb d_Mo_tellOne_89 (lv_at hl 5 rfl) ?_
    refine lv_iload hx hb d_Mo_tellOne_91 (lv_at hl 4 rfl) ?_
    refine lv_icmp_ge hx hb d_Mo_tellOne_93 (tgt := 132) rfl (fun hc => ?_) (fun hc => ?_)
    · replace hF := hF.1 hc
      refine lv_iload hx hb d_Mo_tellOne_132 (lv_at hl 4 rfl) ?_
      refine lv_if_lt hx hb d_Mo_tellOne_134 (tgt := 157) rfl (fun hc => ?_) (fun hc => ?_)
      · replace hF := hF.1 hc
        exact JB_Mo_tellOne_157 C v0 x1 x3 x4 σ _ _ _ h_v0 hH hT hS (lv_sub hl [0, 1, 3, 4] rfl) hF
      · replace hF := hF.2 hc
        refine lv_aload_n hx hb d_Mo_tellOne_137 rfl (lv_at hl 0 rfl) ?_
        refine lv_aload_n hx hb d_Mo_tellOne_138 rfl (lv_at hl 0 rfl) ?_
        refine rs_getR C hH hT h_v0 fk_11_22 tw_921 d_Mo_tellOne_139 (fun h51 => ?_)
        refine lv_iload_n hx hb d_Mo_tellOne_142 rfl (lv_at hl 2 rfl) ?_
        obtain ⟨g52, hF⟩ := hF
        refine rs_iald C hH h51 g52 d_Mo_tellOne_143 ?_
        refine rs_cv (rs_runV C hH hT hl (J_Mo_add l h_v0 hF) rc_Mo_add tw_1120 tw_1122 ts_53 h_v0 ⟨rfl, by decide, by decide⟩ rfl ⟨⟨rfl, rfl⟩, by decide, by decide, by decide⟩ (Nat.le_of_ble_eq_true rfl) rfl d_Mo_tellOne_144) hS (fun σ53 H locs hH hT hS hF => ?_)
        refine lv_aload_n hx hb d_Mo_tellOne_147 rfl (lv_at hl 0 rfl) ?_
        refine lv_aload_n hx hb d_Mo_tellOne_148 rfl (lv_at hl 0 rfl) ?_
        refine rs_getR C hH hT h_v0 fk_11_23 tw_922 d_Mo_tellOne_149 (fun h54 => ?_)
        refine lv_iload_n hx hb d_Mo_tellOne_152 rfl (lv_at hl 2 rfl) ?_
        obtain ⟨g55, hF⟩ := hF
        refine rs_iald C hH h54 g55 d_Mo_tellOne_153 ?_
        refine rs_cv (rs_runV C hH hT hl (J_Mo_add l h_v0 hF) rc_Mo_add tw_1120 tw_1122 ts_53 h_v0 ⟨rfl, by decide, by decide⟩ rfl ⟨⟨rfl, rfl⟩, by decide, by decide, by decide⟩ (Nat.le_of_ble_eq_true rfl) rfl d_Mo_tellOne_154) hS (fun σ56 H locs hH hT hS hF => ?_)
        exact JB_Mo_tellOne_157 C v0 x1 x3 x4 σ56 _ _ _ h_v0 hH hT hS (lv_sub hl [0, 1, 3, 4] rfl) hF
    · replace hF := hF.2 hc
      refine lv_aload_n hx hb d_Mo_tellOne_96 rfl (lv_at hl 0 rfl) ?_
      refine lv_aload_n hx hb d_Mo_tellOne_97 rfl (lv_at hl 0 rfl) ?_
      refine rs_getR C hH hT h_v0 fk_11_38 tw_937 d_Mo_tellOne_98 (fun h51 => ?_)
      refine lv_iload hx hb d_Mo_tellOne_101 (lv_at hl 5 rfl) ?_
      obtain ⟨g52, hF⟩ := hF
      refine rs_iald C hH h51 g52 d_Mo_tellOne_103 ?_
      refine rs_cv (rs_runV C hH hT hl (J_Mo_add l h_v0 hF) rc_Mo_add tw_1120 tw_1122 ts_53 h_v0 ⟨rfl, by decide, by decide⟩ rfl ⟨⟨rfl, rfl⟩, by decide, by decide, by decide⟩ (Nat.le_of_ble_eq_true rfl) rfl d_Mo_tellOne_104) hS (fun σ53 H locs hH hT hS hF => ?_)
      refine lv_aload_n hx hb d_Mo_tellOne_107 rfl (lv_at hl 0 rfl) ?_
      refine rs_getR C hH hT h_v0 fk_11_37 tw_936 d_Mo_tellOne_108 (fun h54 => ?_)
      refine lv_bipush hx hb d_Mo_tellOne_111 kb_40 ?_
      refine lv_iload_n hx hb d_Mo_tellOne_113 rfl (lv_at hl 3 rfl) ?_
      refine lv_imul hx hb d_Mo_tellOne_114 ?_
      refine lv_iload hx hb d_Mo_tellOne_115 (lv_at hl 5 rfl) ?_
      refine lv_iadd hx hb d_Mo_tellOne_117 ?_
      refine lv_aload_n hx hb d_Mo_tellOne_118 rfl (lv_at hl 0 rfl) ?_
      refine rs_getR C hH hT h_v0 fk_11_38 tw_937 d_Mo_tellOne_119 (fun h55 => ?_)
      refine lv_iload hx hb d_Mo_tellOne_122 (lv_at hl 5 rfl) ?_
      obtain ⟨g56, hF⟩ := hF
      refine rs_iald C hH h55 g56 d_Mo_tellOne_124 ?_
      obtain ⟨g57, hF⟩ := hF
      refine rs_iast C hH hT hS h54 g57 d_Mo_tellOne_125 (fun σ58 H locs eσ58 hH hT hS => ?_)
      replace hF := hF σ58 eσ58
      obtain ⟨x59, ex59⟩ : ∃ z : Int32, z = x5 + (1 : Int32) := ⟨_, rfl⟩
      replace hF := hF x59 ex59
      refine lv_iinc hx hb d_Mo_tellOne_126 hl (k := 5) rfl (v := x59) (by rw [ki_1, ex59]) (by decide) (lv' := [(5, .int x59), (0, .ref (Bm + v0)), (1, .int x1), (2, .int x2), (3, .int x3), (4, .int x4)]) rfl (fun ls hl => ?_)
      refine lv_goto hx hb d_Mo_tellOne_129 (tgt := 89) rfl ?_
      exact hK89 v0 x1 x2 x3 x4 x59 σ58 _ _ _ h_v0 hH hT hS (lv_sub hl [1, 2, 3, 4, 5, 0] rfl) hF
set_option maxRecDepth 20000 in
theorem JB_Mo_tellOne_83 {p : Program} {l : Launch} {e : Env} {s : State} {m : MethodId} {args : Array Value} {below : List Frame} {meth : Method} {c : Code} {G : rs_G} {Bm : Nat} {S : rs_Shp} {Q : Int32 → rs_Mem → Prop} (C : rs_C "RouteSpeakerModel" prog_12_method_60_code 6 (some .boolean) G p s m meth c args) (v0 : Nat) (x1 : Int32) (x2 : Int32) (x3 : Int32) (x4 : Int32) (w0 : Nat) (y1 : Int32) (σ : rs_Mem) (H : Heap) (locs : List Loc) (ls : Array Slot) (h_v0 : rs_Ok S 11 v0) (h_w0 : rs_Ok S 11 w0) (hH : rs_H G Bm S σ H) (hT : rs_T S σ) (hS : va_S (rs_A Bm) s.heap H locs) (hl : lv_has ls 6 [(0, .ref (Bm + v0)), (1, .int x1), (2, .int x2), (3, .int x3), (4, .int x4)]) (hF : B_Mo_tellOne_83 S.2.2 Q v0 x1 x2 x3 x4 w0 y1 σ) :
    W p l e { frames := 7, cells := 0, slots := 0, locals := 161 } s m args below meth c H locs 0 0 (MQ below (rs_Qi G Bm S Q) args s 0 0 (rs_A Bm)) (F0 m 83 ls [.int y1, .ref (Bm + w0)]) := by
  have hx := C.1
  have hb := C.2.1
  unfold B_Mo_tellOne_83 at hF
  refine rs_cv (rs_runV C hH hT hl (J_Mo_add l h_w0 hF) rc_Mo_add tw_1120 tw_1122 ts_53 h_w0 ⟨rfl, by decide, by decide⟩ rfl ⟨⟨rfl, rfl⟩, by decide, by decide, by decide⟩ (Nat.le_of_ble_eq_true rfl) rfl d_Mo_tellOne_83) hS (fun σ51 H locs hH hT hS hF => ?_)
  refine lv_iconst hx hb d_Mo_tellOne_86 ki_0 ?_
  refine lv_istore hx hb d_Mo_tellOne_87 hl (by decide) (lv' := [(5, .int (0 : Int32)), (0, .ref (Bm + v0)), (1, .int x1), (2, .int x2), (3, .int x3), (4, .int x4)]) rfl (fun ls hl => ?_)
  obtain ⟨n, hF⟩ := hF
  exact JL_Mo_tellOne_89 C n v0 x1 x2 x3 x4 (0 : Int32) σ51 _ _ _ h_v0 hH hT hS (lv_sub hl [1, 2, 3, 4, 5, 0] rfl) hF
set_option maxRecDepth 20000 in
theorem JB_Mo_tellOne_71 {p : Program} {l : Launch} {e : Env} {s : State} {m : MethodId} {args : Array Value} {below : List Frame} {meth : Method} {c : Code} {G : rs_G} {Bm : Nat} {S : rs_Shp} {Q : Int32 → rs_Mem → Prop} (C : rs_C "RouteSpeakerModel" prog_12_method_60_code 6 (some .boolean) G p s m meth c args) (v0 : Nat) (x1 : Int32) (x2 : Int32) (x3 : Int32) (x4 : Int32) (σ : rs_Mem) (H : Heap) (locs : List Loc) (ls : Array Slot) (h_v0 : rs_Ok S 11 v0) (hH : rs_H G Bm S σ H) (hT : rs_T S σ) (hS : va_S (rs_A Bm) s.heap H locs) (hl : lv_has ls 6 [(0, .ref (Bm + v0)), (1, .int x1), (2, .int x2), (3, .int x3), (4, .int x4)]) (hF : B_Mo_tellOne_71 S.2.2 Q v0 x1 x2 x3 x4 σ) :
    W p l e { frames := 7, cells := 0, slots := 0, locals := 161 } s m args below meth c H locs 0 0 (MQ below (rs_Qi G Bm S Q) args s 0 0 (rs_A Bm)) (F0 m 71 ls []) := by
  have hx := C.1
  have hb := C.2.1
  unfold B_Mo_tellOne_71 at hF
  refine lv_aload_n hx hb d_Mo_tellOne_71 rfl (lv_at hl 0 rfl) ?_
  refine lv_iload hx hb d_Mo_tellOne_72 (lv_at hl 4 rfl) ?_
  refine lv_if_ge hx hb d_Mo_tellOne_74 (tgt := 81) rfl (fun hc => ?_) (fun hc => ?_)
  · replace hF := hF.1 hc
    refine lv_iload hx hb d_Mo_tellOne_81 (lv_at hl 4 rfl) ?_
    exact JB_Mo_tellOne_83 C v0 x1 x2 x3 x4 v0 x4 σ _ _ _ h_v0 h_v0 hH hT hS (lv_sub hl [0, 1, 2, 3, 4] rfl) hF
  · replace hF := hF.2 hc
    refine lv_iconst hx hb d_Mo_tellOne_77 ki_0 ?_
    refine lv_goto hx hb d_Mo_tellOne_78 (tgt := 83) rfl ?_
    exact JB_Mo_tellOne_83 C v0 x1 x2 x3 x4 v0 (0 : Int32) σ _ _ _ h_v0 h_v0 hH hT hS (lv_sub hl [0, 1, 2, 3, 4] rfl) hF
set_option maxRecDepth 20000 in
theorem JB_Mo_tellOne_43 {p : Program} {l : Launch} {e : Env} {s : State} {m : MethodId} {args : Array Value} {below : List Frame} {meth : Method} {c : Code} {G : rs_G} {Bm : Nat} {S : rs_Shp} {Q : Int32 → rs_Mem → Prop} (C : rs_C "RouteSpeakerModel" prog_12_method_60_code 6 (some .boolean) G p s m meth c args) (v0 : Nat) (x1 : Int32) (x2 : Int32) (x3 : Int32) (x4 : Int32) (w0 : Nat) (y1 : Int32) (σ : rs_Mem) (H : Heap) (locs : List Loc) (ls : Array Slot) (h_v0 : rs_Ok S 11 v0) (h_w0 : rs_Ok S 11 w0) (hH : rs_H G Bm S σ H) (hT : rs_T S σ) (hS : va_S (rs_A Bm) s.heap H locs) (hl : lv_has ls 6 [(0, .ref (Bm + v0)), (1, .int x1), (2, .int x2), (3, .int x3), (4, .int x4)]) (hF : B_Mo_tellOne_43 S.2.2 Q v0 x1 x2 x3 x4 w0 y1 σ) :
    W p l e { frames := 7, cells := 0, slots := 0, locals := 161 } s m args below meth c H locs 0 0 (MQ below (rs_Qi G Bm S Q) args s 0 0 (rs_A Bm)) (F0 m 43 ls [.int y1, .ref (Bm + w0)]) := by
  have hx := C.1
  have hb := C.2.1
  unfold B_Mo_tellOne_43 at hF
  refine rs_cv (rs_runV C hH hT hl (J_Mo_add l h_w0 hF) rc_Mo_add tw_1120 tw_1122 ts_53 h_w0 ⟨rfl, by decide, by decide⟩ rfl ⟨⟨rfl, rfl⟩, by decide, by decide, by decide⟩ (Nat.le_of_ble_eq_true rfl) rfl d_Mo_tellOne_43) hS (fun σ51 H locs hH hT hS hF => ?_)
  refine lv_iload hx hb d_Mo_tellOne_46 (lv_at hl 4 rfl) ?_
  refine lv_if_ge hx hb d_Mo_tellOne_48 (tgt := 71) rfl (fun hc => ?_) (fun hc => ?_)
  · replace hF := hF.1 hc
    exact JB_Mo_tellOne_71 C v0 x1 x2 x3 x4 σ51 _ _ _ h_v0 hH hT hS (lv_sub hl [0, 1, 2, 3, 4] rfl) hF
  · replace hF := hF.2 hc
    refine lv_aload_n hx hb d_Mo_tellOne_51 rfl (lv_at hl 0 rfl) ?_
    refine lv_aload_n hx hb d_Mo_tellOne_52 rfl (lv_at hl 0 rfl) ?_
    refine rs_getR C hH hT h_v0 fk_11_22 tw_921 d_Mo_tellOne_53 (fun h52 => ?_)
    refine lv_iload_n hx hb d_Mo_tellOne_56 rfl (lv_at hl 2 rfl) ?_
    obtain ⟨g53, hF⟩ := hF
    refine rs_iald C hH h52 g53 d_Mo_tellOne_57 ?_
    refine rs_cv (rs_runV C hH hT hl (J_Mo_add l h_v0 hF) rc_Mo_add tw_1120 tw_1122 ts_53 h_v0 ⟨rfl, by decide, by decide⟩ rfl ⟨⟨rfl, rfl⟩, by decide, by decide, by decide⟩ (Nat.le_of_ble_eq_true rfl) rfl d_Mo_tellOne_58) hS (fun σ54 H locs hH hT hS hF => ?_)
    refine lv_aload_n hx hb d_Mo_tellOne_61 rfl (lv_at hl 0 rfl) ?_
    refine lv_aload_n hx hb d_Mo_tellOne_62 rfl (lv_at hl 0 rfl) ?_
    refine rs_getR C hH hT h_v0 fk_11_23 tw_922 d_Mo_tellOne_63 (fun h55 => ?_)
    refine lv_iload_n hx hb d_Mo_tellOne_66 rfl (lv_at hl 2 rfl) ?_
    obtain ⟨g56, hF⟩ := hF
    refine rs_iald C hH h55 g56 d_Mo_tellOne_67 ?_
    refine rs_cv (rs_runV C hH hT hl (J_Mo_add l h_v0 hF) rc_Mo_add tw_1120 tw_1122 ts_53 h_v0 ⟨rfl, by decide, by decide⟩ rfl ⟨⟨rfl, rfl⟩, by decide, by decide, by decide⟩ (Nat.le_of_ble_eq_true rfl) rfl d_Mo_tellOne_68) hS (fun σ57 H locs hH hT hS hF => ?_)
    exact JB_Mo_tellOne_71 C v0 x1 x2 x3 x4 σ57 _ _ _ h_v0 hH hT hS (lv_sub hl [0, 1, 2, 3, 4] rfl) hF
abbrev y_Mo_tellOne : MethodName := ({ cls := "RouteSpeakerModel", name := "tellOne", desc := "(II)Z" } : Jvm.MethodName)
theorem rc_Mo_tellOne : rs_Cal y_Mo_tellOne prog_12_method_60_code 6 (some .boolean) 2 := ⟨tw_1044, tw_11, by decide, by decide, by decide +kernel⟩
set_option maxRecDepth 20000 in
theorem J_Mo_tellOne (l : Launch) {G : rs_G} {Bm : Nat} {S : rs_Shp} {v0 : Nat} {x1 : Int32} {x2 : Int32} {σ : rs_Mem} {Q : Int32 → rs_Mem → Prop} (h_v0 : rs_Ok S 11 v0) (hF : F_Mo_tellOne S.2.2 v0 x1 x2 σ Q) :
    Met l y_Mo_tellOne (rs_ws y_Mo_tellOne prog_12_method_60_code 6 (some .boolean)) { frames := 7, cells := 0, slots := 0, locals := 161 } (rs_P G Bm S σ [.ref (Bm + v0), .int x1, .int x2]) (rs_Qi G Bm S Q) 0 0 (rs_A Bm) := by
  refine rs_met (own := "RouteSpeakerModel") (by decide) rfl (Nat.le_of_ble_eq_true rfl) (fun p e s m below meth c ls C hl hH hT hS => ?_)
  replace hl : lv_has ls 6 [(0, .ref (Bm + v0)), (1, .int x1), (2, .int x2)] := hl
  have hx := C.1
  have hb := C.2.1
  unfold F_Mo_tellOne at hF
  refine lv_bipush hx hb d_Mo_tellOne_0 kb_12 ?_
  refine lv_iload_n hx hb d_Mo_tellOne_2 rfl (lv_at hl 1 rfl) ?_
  refine lv_imul hx hb d_Mo_tellOne_3 ?_
  refine lv_iload_n hx hb d_Mo_tellOne_4 rfl (lv_at hl 2 rfl) ?_
  refine lv_iadd hx hb d_Mo_tellOne_5 ?_
  refine lv_topi (fun x51 ex51 => ?_)
  replace hF := hF x51 ex51
  refine lv_istore_n hx hb d_Mo_tellOne_6 rfl hl (by decide) (lv' := [(3, .int x51), (0, .ref (Bm + v0)), (1, .int x1), (2, .int x2)]) rfl (fun ls hl => ?_)
  refine lv_aload_n hx hb d_Mo_tellOne_7 rfl (lv_at hl 1 rfl) ?_
  refine lv_iload_n hx hb d_Mo_tellOne_8 rfl (lv_at hl 2 rfl) ?_
  refine lv_iload_n hx hb d_Mo_tellOne_9 rfl (lv_at hl 3 rfl) ?_
  refine rs_ci (rs_runV C hH hT hl (J_Mo_due l h_v0 hF) rc_Mo_due tw_1045 tw_1047 ts_36 h_v0 ⟨rfl, by decide, by decide⟩ rfl ⟨⟨rfl, rfl⟩, by decide, by decide, by decide⟩ (Nat.le_of_ble_eq_true rfl) rfl d_Mo_tellOne_10) hS (fun x53 σ52 H locs hH hT hS hF => ?_)
  refine lv_istore hx hb d_Mo_tellOne_13 hl (by decide) (lv' := [(4, .int x53), (3, .int x51), (0, .ref (Bm + v0)), (1, .int x1), (2, .int x2)]) rfl (fun ls hl => ?_)
  refine lv_aload_n hx hb d_Mo_tellOne_15 rfl (lv_at hl 2 rfl) ?_
  refine lv_iload_n hx hb d_Mo_tellOne_16 rfl (lv_at hl 1 rfl) ?_
  refine lv_iload hx hb d_Mo_tellOne_17 (lv_at hl 0 rfl) ?_
  refine rs_ci (rs_runV C hH hT hl (J_Mo_isTold l h_v0 hF) rc_Mo_isTold tw_1112 tw_1114 ts_51 h_v0 ⟨rfl, by decide, by decide⟩ rfl ⟨⟨rfl, rfl⟩, by decide, by decide, by decide⟩ (Nat.le_of_ble_eq_true rfl) rfl d_Mo_tellOne_19) hS (fun x55 σ54 H locs hH hT hS hF => ?_)
  refine lv_if_eq hx hb d_Mo_tellOne_22 (tgt := 27) rfl (fun hc => ?_) (fun hc => ?_)
  · replace hF := hF.1 hc
    refine lv_aload_n hx hb d_Mo_tellOne_27 rfl (lv_at hl 2 rfl) ?_
    refine lv_iconst hx hb d_Mo_tellOne_28 ki_2 ?_
    refine rs_cv (rs_runV C hH hT hl (J_Mo_begin l h_v0 hF) rc_Mo_begin tw_1116 tw_1118 ts_52 h_v0 ⟨rfl, by decide, by decide⟩ rfl ⟨⟨rfl, rfl⟩, by decide, by decide, by decide⟩ (Nat.le_of_ble_eq_true rfl) rfl d_Mo_tellOne_29) hS (fun σ56 H locs hH hT hS hF => ?_)
    refine lv_aload_n hx hb d_Mo_tellOne_32 rfl (lv_at hl 2 rfl) ?_
    refine lv_iload hx hb d_Mo_tellOne_33 (lv_at hl 0 rfl) ?_
    refine lv_if_ge hx hb d_Mo_tellOne_35 (tgt := 42) rfl (fun hc => ?_) (fun hc => ?_)
    · replace hF := hF.1 hc
      refine lv_iconst hx hb d_Mo_tellOne_42 ki_0 ?_
      exact JB_Mo_tellOne_43 C v0 x1 x2 x51 x53 v0 (0 : Int32) σ56 _ _ _ h_v0 h_v0 hH hT hS (lv_sub hl [2, 3, 4, 1, 0] rfl) hF
    · replace hF := hF.2 hc
      refine lv_iconst hx hb d_Mo_tellOne_38 ki_1 ?_
      refine lv_goto hx hb d_Mo_tellOne_39 (tgt := 43) rfl ?_
      exact JB_Mo_tellOne_43 C v0 x1 x2 x51 x53 v0 (1 : Int32) σ56 _ _ _ h_v0 h_v0 hH hT hS (lv_sub hl [2, 3, 4, 1, 0] rfl) hF
  · replace hF := hF.2 hc
    refine lv_iconst hx hb d_Mo_tellOne_25 ki_1 ?_
    exact rs_zret C hH hT hS (by decide) hF d_Mo_tellOne_26
/-! RouteSpeakerModel.tell()V -/
theorem d_Mo_tell_0 : decode prog_12_method_61_code 0 = .ok (.iconst 0, 1) := by decide +kernel
theorem d_Mo_tell_1 : decode prog_12_method_61_code 1 = .ok (.istore_n 1, 1) := by decide +kernel
theorem d_Mo_tell_2 : decode prog_12_method_61_code 2 = .ok (.iload_n 1, 1) := by decide +kernel
theorem d_Mo_tell_3 : decode prog_12_method_61_code 3 = .ok (.iconst 4, 1) := by decide +kernel
theorem d_Mo_tell_4 : decode prog_12_method_61_code 4 = .ok (.aload_n 0, 1) := by decide +kernel
theorem d_Mo_tell_5 : decode prog_12_method_61_code 5 = .ok (.getfield 134, 3) := by decide +kernel
theorem d_Mo_tell_8 : decode prog_12_method_61_code 8 = .ok (.imul, 1) := by decide +kernel
theorem d_Mo_tell_9 : decode prog_12_method_61_code 9 = .ok (.if_icmp .ge (49), 3) := by decide +kernel
theorem d_Mo_tell_12 : decode prog_12_method_61_code 12 = .ok (.aload_n 0, 1) := by decide +kernel
theorem d_Mo_tell_13 : decode prog_12_method_61_code 13 = .ok (.getfield 16, 3) := by decide +kernel
theorem d_Mo_tell_16 : decode prog_12_method_61_code 16 = .ok (.iload_n 1, 1) := by decide +kernel
theorem d_Mo_tell_17 : decode prog_12_method_61_code 17 = .ok (.iconst 4, 1) := by decide +kernel
theorem d_Mo_tell_18 : decode prog_12_method_61_code 18 = .ok (.irem, 1) := by decide +kernel
theorem d_Mo_tell_19 : decode prog_12_method_61_code 19 = .ok (.iaload, 1) := by decide +kernel
theorem d_Mo_tell_20 : decode prog_12_method_61_code 20 = .ok (.iconst 3, 1) := by decide +kernel
theorem d_Mo_tell_21 : decode prog_12_method_61_code 21 = .ok (.if_icmp .ne (7), 3) := by decide +kernel
theorem d_Mo_tell_24 : decode prog_12_method_61_code 24 = .ok (.iconst 1, 1) := by decide +kernel
theorem d_Mo_tell_25 : decode prog_12_method_61_code 25 = .ok (.goto (4), 3) := by decide +kernel
theorem d_Mo_tell_28 : decode prog_12_method_61_code 28 = .ok (.iconst 0, 1) := by decide +kernel
theorem d_Mo_tell_29 : decode prog_12_method_61_code 29 = .ok (.istore_n 2, 1) := by decide +kernel
theorem d_Mo_tell_30 : decode prog_12_method_61_code 30 = .ok (.iload_n 2, 1) := by decide +kernel
theorem d_Mo_tell_31 : decode prog_12_method_61_code 31 = .ok (.ifCond .eq (20), 3) := by decide +kernel
theorem d_Mo_tell_34 : decode prog_12_method_61_code 34 = .ok (.aload_n 0, 1) := by decide +kernel
theorem d_Mo_tell_35 : decode prog_12_method_61_code 35 = .ok (.iload_n 1, 1) := by decide +kernel
theorem d_Mo_tell_36 : decode prog_12_method_61_code 36 = .ok (.iconst 4, 1) := by decide +kernel
theorem d_Mo_tell_37 : decode prog_12_method_61_code 37 = .ok (.irem, 1) := by decide +kernel
theorem d_Mo_tell_38 : decode prog_12_method_61_code 38 = .ok (.iload_n 1, 1) := by decide +kernel
theorem d_Mo_tell_39 : decode prog_12_method_61_code 39 = .ok (.iconst 4, 1) := by decide +kernel
theorem d_Mo_tell_40 : decode prog_12_method_61_code 40 = .ok (.idiv, 1) := by decide +kernel
theorem d_Mo_tell_41 : decode prog_12_method_61_code 41 = .ok (.invokevirtual 301, 3) := by decide +kernel
theorem d_Mo_tell_44 : decode prog_12_method_61_code 44 = .ok (.ifCond .ne (7), 3) := by decide +kernel
theorem d_Mo_tell_47 : decode prog_12_method_61_code 47 = .ok (.iconst 0, 1) := by decide +kernel
theorem d_Mo_tell_48 : decode prog_12_method_61_code 48 = .ok (.goto (6), 3) := by decide +kernel
theorem d_Mo_tell_51 : decode prog_12_method_61_code 51 = .ok (.iload_n 1, 1) := by decide +kernel
theorem d_Mo_tell_52 : decode prog_12_method_61_code 52 = .ok (.iconst 1, 1) := by decide +kernel
theorem d_Mo_tell_53 : decode prog_12_method_61_code 53 = .ok (.iadd, 1) := by decide +kernel
theorem d_Mo_tell_54 : decode prog_12_method_61_code 54 = .ok (.istore_n 1, 1) := by decide +kernel
theorem d_Mo_tell_55 : decode prog_12_method_61_code 55 = .ok (.goto (-53), 3) := by decide +kernel
theorem d_Mo_tell_58 : decode prog_12_method_61_code 58 = .ok (.return_, 1) := by decide +kernel
def B_Mo_tell_51 (N : Nat → Nat) (K2 : Nat → Int32 → rs_Mem → Prop) (Q : rs_Mem → Prop) (v0 : Nat) (x1 : Int32) (σ : rs_Mem) : Prop :=
  (∀ x51 : Int32, x51 = (x1 + (1 : Int32)) → (K2 v0 x51 σ))
def B_Mo_tell_29 (N : Nat → Nat) (K2 : Nat → Int32 → rs_Mem → Prop) (Q : rs_Mem → Prop) (v0 : Nat) (x1 : Int32) (y0 : Int32) (σ : rs_Mem) : Prop :=
  ((y0 = 0 → (B_Mo_tell_51 N K2 Q v0 x1 σ)) ∧ (¬ (y0 = 0) → (F_Mo_tellOne N v0 (x1 - x1 / (4 : Int32) * (4 : Int32)) (x1 / (4 : Int32)) σ (fun x52 σ51 => ((¬ (x52 = 0) → (B_Mo_tell_51 N K2 Q v0 x1 σ51)) ∧ (x52 = 0 → (K2 v0 (0 : Int32) σ51)))))))
def G_Mo_tell_2 (N : Nat → Nat) (Q : rs_Mem → Prop) (K2 : Nat → Int32 → rs_Mem → Prop) (v0 : Nat) (x1 : Int32) (σ : rs_Mem) : Prop :=
  ((((4 : Int32) * (rs_I σ v0 21)) ≤ x1 → (Q σ)) ∧ (¬ (((4 : Int32) * (rs_I σ v0 21)) ≤ x1) → (vp_in (x1 - x1 / (4 : Int32) * (4 : Int32)) (N (rs_R σ v0 3)) ∧ ((¬ ((rs_I σ (rs_R σ v0 3) (x1 - x1 / (4 : Int32) * (4 : Int32)).toNatClampNeg) = (3 : Int32)) → (B_Mo_tell_29 N K2 Q v0 x1 (0 : Int32) σ)) ∧ ((rs_I σ (rs_R σ v0 3) (x1 - x1 / (4 : Int32) * (4 : Int32)).toNatClampNeg) = (3 : Int32) → (B_Mo_tell_29 N K2 Q v0 x1 (1 : Int32) σ))))))
noncomputable def L_Mo_tell_2 (N : Nat → Nat) (Q : rs_Mem → Prop) (n : Nat) : Nat → Int32 → rs_Mem → Prop := Nat.rec (motive := fun _ => Nat → Int32 → rs_Mem → Prop) (fun _ _ _ => False) (fun _ K => G_Mo_tell_2 N Q K) n
def F_Mo_tell (N : Nat → Nat) (v0 : Nat) (σ : rs_Mem) (Q : rs_Mem → Prop) : Prop :=
  (∃ n : Nat, L_Mo_tell_2 N Q n v0 (0 : Int32) σ)
set_option maxRecDepth 20000 in
theorem JB_Mo_tell_51 {p : Program} {l : Launch} {e : Env} {s : State} {m : MethodId} {args : Array Value} {below : List Frame} {meth : Method} {c : Code} {G : rs_G} {Bm : Nat} {S : rs_Shp} {K2 : Nat → Int32 → rs_Mem → Prop} {Q : rs_Mem → Prop} (C : rs_C "RouteSpeakerModel" prog_12_method_61_code 3 none G p s m meth c args) (hK2 : ∀ (v0 : Nat) (x1 : Int32) (σ : rs_Mem) (H : Heap) (locs : List Loc) (ls : Array Slot), rs_Ok S 11 v0 → rs_H G Bm S σ H → rs_T S σ → va_S (rs_A Bm) s.heap H locs → lv_has ls 3 [(0, .ref (Bm + v0)), (1, .int x1)] → K2 v0 x1 σ → W p l e { frames := 8, cells := 0, slots := 0, locals := 186 } s m args below meth c H locs 0 0 (MQ below (rs_Qv G Bm S Q) args s 0 0 (rs_A Bm)) (F0 m 2 ls [])) (v0 : Nat) (x1 : Int32) (σ : rs_Mem) (H : Heap) (locs : List Loc) (ls : Array Slot) (h_v0 : rs_Ok S 11 v0) (hH : rs_H G Bm S σ H) (hT : rs_T S σ) (hS : va_S (rs_A Bm) s.heap H locs) (hl : lv_has ls 3 [(0, .ref (Bm + v0)), (1, .int x1)]) (hF : B_Mo_tell_51 S.2.2 K2 Q v0 x1 σ) :
    W p l e { frames := 8, cells := 0, slots := 0, locals := 186 } s m args below meth c H locs 0 0 (MQ below (rs_Qv G Bm S Q) args s 0 0 (rs_A Bm)) (F0 m 51 ls []) := by
  have hx := C.1
  have hb := C.2.1
  unfold B_Mo_tell_51 at hF
  refine lv_iload_n hx hb d_Mo_tell_51 rfl (lv_at hl 1 rfl) ?_
  refine lv_iconst hx hb d_Mo_tell_52 ki_1 ?_
  refine lv_iadd hx hb d_Mo_tell_53 ?_
  refine lv_topi (fun x51 ex51 => ?_)
  replace hF := hF x51 ex51
  refine lv_istore_n hx hb d_Mo_tell_54 rfl hl (by decide) (lv' := [(1, .int x51), (0, .ref (Bm + v0))]) rfl (fun ls hl => ?_)
  refine lv_goto hx hb d_Mo_tell_55 (tgt := 2) rfl ?_
  exact hK2 v0 x51 σ _ _ _ h_v0 hH hT hS (lv_sub hl [1, 0] rfl) hF
set_option maxRecDepth 20000 in
theorem JB_Mo_tell_29 {p : Program} {l : Launch} {e : Env} {s : State} {m : MethodId} {args : Array Value} {below : List Frame} {meth : Method} {c : Code} {G : rs_G} {Bm : Nat} {S : rs_Shp} {K2 : Nat → Int32 → rs_Mem → Prop} {Q : rs_Mem → Prop} (C : rs_C "RouteSpeakerModel" prog_12_method_61_code 3 none G p s m meth c args) (hK2 : ∀ (v0 : Nat) (x1 : Int32) (σ : rs_Mem) (H : Heap) (locs : List Loc) (ls : Array Slot), rs_Ok S 11 v0 → rs_H G Bm S σ H → rs_T S σ → va_S (rs_A Bm) s.heap H locs → lv_has ls 3 [(0, .ref (Bm + v0)), (1, .int x1)] → K2 v0 x1 σ → W p l e { frames := 8, cells := 0, slots := 0, locals := 186 } s m args below meth c H locs 0 0 (MQ below (rs_Qv G Bm S Q) args s 0 0 (rs_A Bm)) (F0 m 2 ls [])) (v0 : Nat) (x1 : Int32) (y0 : Int32) (σ : rs_Mem) (H : Heap) (locs : List Loc) (ls : Array Slot) (h_v0 : rs_Ok S 11 v0) (hH : rs_H G Bm S σ H) (hT : rs_T S σ) (hS : va_S (rs_A Bm) s.heap H locs) (hl : lv_has ls 3 [(0, .ref (Bm + v0)), (1, .int x1)]) (hF : B_Mo_tell_29 S.2.2 K2 Q v0 x1 y0 σ) :
    W p l e { frames := 8, cells := 0, slots := 0, locals := 186 } s m args below meth c H locs 0 0 (MQ below (rs_Qv G Bm S Q) args s 0 0 (rs_A Bm)) (F0 m 29 ls [.int y0]) := by
  have hx := C.1
  have hb := C.2.1
  unfold B_Mo_tell_29 at hF
  refine lv_istore_n hx hb d_Mo_tell_29 rfl hl (by decide) (lv' := [(2, .int y0), (0, .ref (Bm + v0)), (1, .int x1)]) rfl (fun ls hl => ?_)
  refine lv_iload_n hx hb d_Mo_tell_30 rfl (lv_at hl 0 rfl) ?_
  refine lv_if_eq hx hb d_Mo_tell_31 (tgt := 51) rfl (fun hc => ?_) (fun hc => ?_)
  · replace hF := hF.1 hc
    exact JB_Mo_tell_51 C hK2 v0 x1 σ _ _ _ h_v0 hH hT hS (lv_sub hl [1, 2] rfl) hF
  · replace hF := hF.2 hc
    refine lv_aload_n hx hb d_Mo_tell_34 rfl (lv_at hl 1 rfl) ?_
    refine lv_iload_n hx hb d_Mo_tell_35 rfl (lv_at hl 2 rfl) ?_
    refine lv_iconst hx hb d_Mo_tell_36 ki_4 ?_
    refine lv_irem hx hb d_Mo_tell_37 (by decide) ?_
    refine lv_iload_n hx hb d_Mo_tell_38 rfl (lv_at hl 2 rfl) ?_
    refine lv_iconst hx hb d_Mo_tell_39 ki_4 ?_
    refine lv_idiv hx hb d_Mo_tell_40 (by decide) ?_
    refine rs_ci (rs_runV C hH hT hl (J_Mo_tellOne l h_v0 hF) rc_Mo_tellOne tw_1041 tw_1043 ts_35 h_v0 ⟨rfl, by decide, by decide⟩ rfl ⟨⟨rfl, rfl⟩, by decide, by decide, by decide⟩ (Nat.le_of_ble_eq_true rfl) rfl d_Mo_tell_41) hS (fun x52 σ51 H locs hH hT hS hF => ?_)
    refine lv_if_ne hx hb d_Mo_tell_44 (tgt := 51) rfl (fun hc => ?_) (fun hc => ?_)
    · replace hF := hF.1 hc
      exact JB_Mo_tell_51 C hK2 v0 x1 σ51 _ _ _ h_v0 hH hT hS (lv_sub hl [1, 2] rfl) hF
    · replace hF := hF.2 hc
      refine lv_iconst hx hb d_Mo_tell_47 ki_0 ?_
      refine lv_goto hx hb d_Mo_tell_48 (tgt := 54) rfl ?_
      refine lv_istore_n hx hb d_Mo_tell_54 rfl hl (by decide) (lv' := [(1, .int (0 : Int32)), (2, .int y0), (0, .ref (Bm + v0))]) rfl (fun ls hl => ?_)
      refine lv_goto hx hb d_Mo_tell_55 (tgt := 2) rfl ?_
      exact hK2 v0 (0 : Int32) σ51 _ _ _ h_v0 hH hT hS (lv_sub hl [2, 0] rfl) hF
set_option maxRecDepth 20000 in
theorem JL_Mo_tell_2 {p : Program} {l : Launch} {e : Env} {s : State} {m : MethodId} {args : Array Value} {below : List Frame} {meth : Method} {c : Code} {G : rs_G} {Bm : Nat} {S : rs_Shp} {Q : rs_Mem → Prop} (C : rs_C "RouteSpeakerModel" prog_12_method_61_code 3 none G p s m meth c args) : ∀ n : Nat, ∀ (v0 : Nat) (x1 : Int32) (σ : rs_Mem) (H : Heap) (locs : List Loc) (ls : Array Slot), rs_Ok S 11 v0 → rs_H G Bm S σ H → rs_T S σ → va_S (rs_A Bm) s.heap H locs → lv_has ls 3 [(0, .ref (Bm + v0)), (1, .int x1)] → (L_Mo_tell_2 S.2.2 Q n) v0 x1 σ → W p l e { frames := 8, cells := 0, slots := 0, locals := 186 } s m args below meth c H locs 0 0 (MQ below (rs_Qv G Bm S Q) args s 0 0 (rs_A Bm)) (F0 m 2 ls []) := by
  have hx := C.1
  have hb := C.2.1
  intro n
  induction n with
  | zero => intros; rename_i hF; exact hF.elim
  | succ n hK2 =>
    intro v0 x1 σ H locs ls h_v0 hH hT hS hl hF
    replace hF : G_Mo_tell_2 S.2.2 Q (L_Mo_tell_2 S.2.2 Q n) v0 x1 σ := hF
    unfold G_Mo_tell_2 at hF
    refine lv_iload_n hx hb d_Mo_tell_2 rfl (lv_at hl 1 rfl) ?_
    refine lv_iconst hx hb d_Mo_tell_3 ki_4 ?_
    refine lv_aload_n hx hb d_Mo_tell_4 rfl (lv_at hl 0 rfl) ?_
    refine rs_getI C hH h_v0 fk_11_21 tw_920 d_Mo_tell_5 ?_
    refine lv_imul hx hb d_Mo_tell_8 ?_
    refine lv_icmp_ge hx hb d_Mo_tell_9 (tgt := 58) rfl (fun hc => ?_) (fun hc => ?_)
    · replace hF := hF.1 hc
      exact rs_vret C hH hT hS hF d_Mo_tell_58
    · replace hF := hF.2 hc
      refine lv_aload_n hx hb d_Mo_tell_12 rfl (lv_at hl 0 rfl) ?_
      refine rs_getR C hH hT h_v0 fk_11_3 tw_902 d_Mo_tell_13 (fun h51 => ?_)
      refine lv_iload_n hx hb d_Mo_tell_16 rfl (lv_at hl 1 rfl) ?_
      refine lv_iconst hx hb d_Mo_tell_17 ki_4 ?_
      refine lv_irem hx hb d_Mo_tell_18 (by decide) ?_
      obtain ⟨g52, hF⟩ := hF
      refine rs_iald C hH h51 g52 d_Mo_tell_19 ?_
      refine lv_iconst hx hb d_Mo_tell_20 ki_3 ?_
      refine lv_icmp_ne hx hb d_Mo_tell_21 (tgt := 28) rfl (fun hc => ?_) (fun hc => ?_)
      · replace hF := hF.1 hc
        refine lv_iconst hx hb d_Mo_tell_28 ki_0 ?_
        exact JB_Mo_tell_29 C hK2 v0 x1 (0 : Int32) σ _ _ _ h_v0 hH hT hS (lv_sub hl [0, 1] rfl) hF
      · replace hF := hF.2 hc
        refine lv_iconst hx hb d_Mo_tell_24 ki_1 ?_
        refine lv_goto hx hb d_Mo_tell_25 (tgt := 29) rfl ?_
        exact JB_Mo_tell_29 C hK2 v0 x1 (1 : Int32) σ _ _ _ h_v0 hH hT hS (lv_sub hl [0, 1] rfl) hF
abbrev y_Mo_tell : MethodName := ({ cls := "RouteSpeakerModel", name := "tell", desc := "()V" } : Jvm.MethodName)
theorem rc_Mo_tell : rs_Cal y_Mo_tell prog_12_method_61_code 3 none 0 := ⟨tw_1040, tw_11, by decide, by decide, by decide +kernel⟩
set_option maxRecDepth 20000 in
theorem J_Mo_tell (l : Launch) {G : rs_G} {Bm : Nat} {S : rs_Shp} {v0 : Nat} {σ : rs_Mem} {Q : rs_Mem → Prop} (h_v0 : rs_Ok S 11 v0) (hF : F_Mo_tell S.2.2 v0 σ Q) :
    Met l y_Mo_tell (rs_ws y_Mo_tell prog_12_method_61_code 3 none) { frames := 8, cells := 0, slots := 0, locals := 186 } (rs_P G Bm S σ [.ref (Bm + v0)]) (rs_Qv G Bm S Q) 0 0 (rs_A Bm) := by
  refine rs_met (own := "RouteSpeakerModel") (by decide) rfl (Nat.le_of_ble_eq_true rfl) (fun p e s m below meth c ls C hl hH hT hS => ?_)
  replace hl : lv_has ls 3 [(0, .ref (Bm + v0))] := hl
  have hx := C.1
  have hb := C.2.1
  unfold F_Mo_tell at hF
  refine lv_iconst hx hb d_Mo_tell_0 ki_0 ?_
  refine lv_istore_n hx hb d_Mo_tell_1 rfl hl (by decide) (lv' := [(1, .int (0 : Int32)), (0, .ref (Bm + v0))]) rfl (fun ls hl => ?_)
  obtain ⟨n, hF⟩ := hF
  exact JL_Mo_tell_2 C n v0 (0 : Int32) σ _ _ _ h_v0 hH hT hS (lv_sub hl [1, 0] rfl) hF
/-! RouteSpeakerModel.peer(III)V -/
theorem d_Mo_peer_0 : decode prog_12_method_17_code 0 = .ok (.iload_n 1, 1) := by decide +kernel
theorem d_Mo_peer_1 : decode prog_12_method_17_code 1 = .ok (.invokestatic 158, 3) := by decide +kernel
theorem d_Mo_peer_4 : decode prog_12_method_17_code 4 = .ok (.ifCond .eq (33), 3) := by decide +kernel
theorem d_Mo_peer_7 : decode prog_12_method_17_code 7 = .ok (.iload_n 2, 1) := by decide +kernel
theorem d_Mo_peer_8 : decode prog_12_method_17_code 8 = .ok (.ifCond .lt (29), 3) := by decide +kernel
theorem d_Mo_peer_11 : decode prog_12_method_17_code 11 = .ok (.iload_n 2, 1) := by decide +kernel
theorem d_Mo_peer_12 : decode prog_12_method_17_code 12 = .ok (.iconst 2, 1) := by decide +kernel
theorem d_Mo_peer_13 : decode prog_12_method_17_code 13 = .ok (.if_icmp .gt (24), 3) := by decide +kernel
theorem d_Mo_peer_16 : decode prog_12_method_17_code 16 = .ok (.iload_n 2, 1) := by decide +kernel
theorem d_Mo_peer_17 : decode prog_12_method_17_code 17 = .ok (.ifCond .gt (16), 3) := by decide +kernel
theorem d_Mo_peer_20 : decode prog_12_method_17_code 20 = .ok (.iload_n 3, 1) := by decide +kernel
theorem d_Mo_peer_21 : decode prog_12_method_17_code 21 = .ok (.invokestatic 161, 3) := by decide +kernel
theorem d_Mo_peer_24 : decode prog_12_method_17_code 24 = .ok (.ifCond .eq (13), 3) := by decide +kernel
theorem d_Mo_peer_27 : decode prog_12_method_17_code 27 = .ok (.iload_n 3, 1) := by decide +kernel
theorem d_Mo_peer_28 : decode prog_12_method_17_code 28 = .ok (.bipush (100), 2) := by decide +kernel
theorem d_Mo_peer_30 : decode prog_12_method_17_code 30 = .ok (.if_icmp .eq (7), 3) := by decide +kernel
theorem d_Mo_peer_33 : decode prog_12_method_17_code 33 = .ok (.iconst 1, 1) := by decide +kernel
theorem d_Mo_peer_34 : decode prog_12_method_17_code 34 = .ok (.goto (4), 3) := by decide +kernel
theorem d_Mo_peer_37 : decode prog_12_method_17_code 37 = .ok (.iconst 0, 1) := by decide +kernel
theorem d_Mo_peer_38 : decode prog_12_method_17_code 38 = .ok (.istore 4, 2) := by decide +kernel
theorem d_Mo_peer_40 : decode prog_12_method_17_code 40 = .ok (.aload_n 0, 1) := by decide +kernel
theorem d_Mo_peer_41 : decode prog_12_method_17_code 41 = .ok (.iload 4, 2) := by decide +kernel
theorem d_Mo_peer_43 : decode prog_12_method_17_code 43 = .ok (.ifCond .ne (7), 3) := by decide +kernel
theorem d_Mo_peer_46 : decode prog_12_method_17_code 46 = .ok (.iconst 1, 1) := by decide +kernel
theorem d_Mo_peer_47 : decode prog_12_method_17_code 47 = .ok (.goto (17), 3) := by decide +kernel
theorem d_Mo_peer_50 : decode prog_12_method_17_code 50 = .ok (.aload_n 0, 1) := by decide +kernel
theorem d_Mo_peer_51 : decode prog_12_method_17_code 51 = .ok (.getfield 16, 3) := by decide +kernel
theorem d_Mo_peer_54 : decode prog_12_method_17_code 54 = .ok (.iload_n 1, 1) := by decide +kernel
theorem d_Mo_peer_55 : decode prog_12_method_17_code 55 = .ok (.iaload, 1) := by decide +kernel
theorem d_Mo_peer_56 : decode prog_12_method_17_code 56 = .ok (.ifCond .eq (7), 3) := by decide +kernel
theorem d_Mo_peer_59 : decode prog_12_method_17_code 59 = .ok (.iconst 2, 1) := by decide +kernel
theorem d_Mo_peer_60 : decode prog_12_method_17_code 60 = .ok (.goto (4), 3) := by decide +kernel
theorem d_Mo_peer_63 : decode prog_12_method_17_code 63 = .ok (.iconst 0, 1) := by decide +kernel
theorem d_Mo_peer_64 : decode prog_12_method_17_code 64 = .ok (.putfield 126, 3) := by decide +kernel
theorem d_Mo_peer_67 : decode prog_12_method_17_code 67 = .ok (.aload_n 0, 1) := by decide +kernel
theorem d_Mo_peer_68 : decode prog_12_method_17_code 68 = .ok (.getfield 126, 3) := by decide +kernel
theorem d_Mo_peer_71 : decode prog_12_method_17_code 71 = .ok (.ifCond .eq (4), 3) := by decide +kernel
theorem d_Mo_peer_74 : decode prog_12_method_17_code 74 = .ok (.return_, 1) := by decide +kernel
theorem d_Mo_peer_75 : decode prog_12_method_17_code 75 = .ok (.aload_n 0, 1) := by decide +kernel
theorem d_Mo_peer_76 : decode prog_12_method_17_code 76 = .ok (.getfield 7, 3) := by decide +kernel
theorem d_Mo_peer_79 : decode prog_12_method_17_code 79 = .ok (.iload_n 1, 1) := by decide +kernel
theorem d_Mo_peer_80 : decode prog_12_method_17_code 80 = .ok (.iload_n 2, 1) := by decide +kernel
theorem d_Mo_peer_81 : decode prog_12_method_17_code 81 = .ok (.iastore, 1) := by decide +kernel
theorem d_Mo_peer_82 : decode prog_12_method_17_code 82 = .ok (.aload_n 0, 1) := by decide +kernel
theorem d_Mo_peer_83 : decode prog_12_method_17_code 83 = .ok (.getfield 13, 3) := by decide +kernel
theorem d_Mo_peer_86 : decode prog_12_method_17_code 86 = .ok (.iload_n 1, 1) := by decide +kernel
theorem d_Mo_peer_87 : decode prog_12_method_17_code 87 = .ok (.iload_n 2, 1) := by decide +kernel
theorem d_Mo_peer_88 : decode prog_12_method_17_code 88 = .ok (.ifCond .le (8), 3) := by decide +kernel
theorem d_Mo_peer_91 : decode prog_12_method_17_code 91 = .ok (.bipush (100), 2) := by decide +kernel
theorem d_Mo_peer_93 : decode prog_12_method_17_code 93 = .ok (.goto (4), 3) := by decide +kernel
theorem d_Mo_peer_96 : decode prog_12_method_17_code 96 = .ok (.iload_n 3, 1) := by decide +kernel
theorem d_Mo_peer_97 : decode prog_12_method_17_code 97 = .ok (.iastore, 1) := by decide +kernel
theorem d_Mo_peer_98 : decode prog_12_method_17_code 98 = .ok (.aload_n 0, 1) := by decide +kernel
theorem d_Mo_peer_99 : decode prog_12_method_17_code 99 = .ok (.invokevirtual 164, 3) := by decide +kernel
theorem d_Mo_peer_102 : decode prog_12_method_17_code 102 = .ok (.return_, 1) := by decide +kernel
def B_Mo_peer_97 (N : Nat → Nat) (Q : rs_Mem → Prop) (v0 : Nat) (w0 : Nat) (y1 : Int32) (y2 : Int32) (σ : rs_Mem) : Prop :=
  (vp_in y1 (N w0) ∧ ∀ σ52 : rs_Mem, σ52 = rs_sI σ w0 y1.toNatClampNeg y2 → (F_Mo_tell N v0 σ52 (fun σ53 => (Q σ53))))
def B_Mo_peer_64 (N : Nat → Nat) (Q : rs_Mem → Prop) (v0 : Nat) (x1 : Int32) (x2 : Int32) (x3 : Int32) (w0 : Nat) (y1 : Int32) (σ : rs_Mem) : Prop :=
  (∀ σ51 : rs_Mem, σ51 = rs_sI σ w0 0 y1 → (((rs_I σ51 v0 0) = 0 → (vp_in x1 (N (rs_R σ51 v0 1)) ∧ ∀ σ54 : rs_Mem, σ54 = rs_sI σ51 (rs_R σ51 v0 1) x1.toNatClampNeg x2 → ((x2 ≤ 0 → (B_Mo_peer_97 N Q v0 (rs_R σ54 v0 2) x1 x3 σ54)) ∧ (¬ (x2 ≤ 0) → (B_Mo_peer_97 N Q v0 (rs_R σ54 v0 2) x1 (100 : Int32) σ54))))) ∧ (¬ ((rs_I σ51 v0 0) = 0) → (Q σ51))))
def B_Mo_peer_38 (N : Nat → Nat) (Q : rs_Mem → Prop) (v0 : Nat) (x1 : Int32) (x2 : Int32) (x3 : Int32) (y0 : Int32) (σ : rs_Mem) : Prop :=
  ((¬ (y0 = 0) → (vp_in x1 (N (rs_R σ v0 3)) ∧ (((rs_I σ (rs_R σ v0 3) x1.toNatClampNeg) = 0 → (B_Mo_peer_64 N Q v0 x1 x2 x3 v0 (0 : Int32) σ)) ∧ (¬ ((rs_I σ (rs_R σ v0 3) x1.toNatClampNeg) = 0) → (B_Mo_peer_64 N Q v0 x1 x2 x3 v0 (2 : Int32) σ))))) ∧ (y0 = 0 → (B_Mo_peer_64 N Q v0 x1 x2 x3 v0 (1 : Int32) σ)))
def B_Mo_peer_33 (N : Nat → Nat) (Q : rs_Mem → Prop) (v0 : Nat) (x1 : Int32) (x2 : Int32) (x3 : Int32) (σ : rs_Mem) : Prop :=
  (B_Mo_peer_38 N Q v0 x1 x2 x3 (1 : Int32) σ)
def B_Mo_peer_37 (N : Nat → Nat) (Q : rs_Mem → Prop) (v0 : Nat) (x1 : Int32) (x2 : Int32) (x3 : Int32) (σ : rs_Mem) : Prop :=
  (B_Mo_peer_38 N Q v0 x1 x2 x3 (0 : Int32) σ)
def F_Mo_peer (N : Nat → Nat) (v0 : Nat) (x1 : Int32) (x2 : Int32) (x3 : Int32) (σ : rs_Mem) (Q : rs_Mem → Prop) : Prop :=
  (F_Mo_isPeer N x1 σ (fun x52 σ51 => ((x52 = 0 → (B_Mo_peer_37 N Q v0 x1 x2 x3 σ51)) ∧ (¬ (x52 = 0) → ((x2 < 0 → (B_Mo_peer_37 N Q v0 x1 x2 x3 σ51)) ∧ (¬ (x2 < 0) → (((2 : Int32) < x2 → (B_Mo_peer_37 N Q v0 x1 x2 x3 σ51)) ∧ (¬ ((2 : Int32) < x2) → ((0 < x2 → (B_Mo_peer_33 N Q v0 x1 x2 x3 σ51)) ∧ (¬ (0 < x2) → (F_Mo_isNumber N x3 σ51 (fun x54 σ53 => ((x54 = 0 → (B_Mo_peer_37 N Q v0 x1 x2 x3 σ53)) ∧ (¬ (x54 = 0) → ((x3 = (100 : Int32) → (B_Mo_peer_37 N Q v0 x1 x2 x3 σ53)) ∧ (¬ (x3 = (100 : Int32)) → (B_Mo_peer_33 N Q v0 x1 x2 x3 σ53)))))))))))))))))
set_option maxRecDepth 20000 in
theorem JB_Mo_peer_97 {p : Program} {l : Launch} {e : Env} {s : State} {m : MethodId} {args : Array Value} {below : List Frame} {meth : Method} {c : Code} {G : rs_G} {Bm : Nat} {S : rs_Shp} {Q : rs_Mem → Prop} (C : rs_C "RouteSpeakerModel" prog_12_method_17_code 5 none G p s m meth c args) (v0 : Nat) (w0 : Nat) (y1 : Int32) (y2 : Int32) (σ : rs_Mem) (H : Heap) (locs : List Loc) (ls : Array Slot) (h_v0 : rs_Ok S 11 v0) (h_w0 : rs_Ok S 20 w0) (hH : rs_H G Bm S σ H) (hT : rs_T S σ) (hS : va_S (rs_A Bm) s.heap H locs) (hl : lv_has ls 5 [(0, .ref (Bm + v0))]) (hF : B_Mo_peer_97 S.2.2 Q v0 w0 y1 y2 σ) :
    W p l e { frames := 9, cells := 0, slots := 0, locals := 208 } s m args below meth c H locs 0 0 (MQ below (rs_Qv G Bm S Q) args s 0 0 (rs_A Bm)) (F0 m 97 ls [.int y2, .int y1, .ref (Bm + w0)]) := by
  have hx := C.1
  have hb := C.2.1
  unfold B_Mo_peer_97 at hF
  obtain ⟨g51, hF⟩ := hF
  refine rs_iast C hH hT hS h_w0 g51 d_Mo_peer_97 (fun σ52 H locs eσ52 hH hT hS => ?_)
  replace hF := hF σ52 eσ52
  refine lv_aload_n hx hb d_Mo_peer_98 rfl (lv_at hl 0 rfl) ?_
  refine rs_cv (rs_runV C hH hT hl (J_Mo_tell l h_v0 hF) rc_Mo_tell tw_1037 tw_1039 ts_34 h_v0 ⟨rfl, by decide, by decide⟩ rfl ⟨⟨rfl, rfl⟩, by decide, by decide, by decide⟩ (Nat.le_of_ble_eq_true rfl) rfl d_Mo_peer_99) hS (fun σ53 H locs hH hT hS hF => ?_)
  exact rs_vret C hH hT hS hF d_Mo_peer_102
set_option maxRecDepth 20000 in
theorem JB_Mo_peer_64 {p : Program} {l : Launch} {e : Env} {s : State} {m : MethodId} {args : Array Value} {below : List Frame} {meth : Method} {c : Code} {G : rs_G} {Bm : Nat} {S : rs_Shp} {Q : rs_Mem → Prop} (C : rs_C "RouteSpeakerModel" prog_12_method_17_code 5 none G p s m meth c args) (v0 : Nat) (x1 : Int32) (x2 : Int32) (x3 : Int32) (w0 : Nat) (y1 : Int32) (σ : rs_Mem) (H : Heap) (locs : List Loc) (ls : Array Slot) (h_v0 : rs_Ok S 11 v0) (h_w0 : rs_Ok S 11 w0) (hH : rs_H G Bm S σ H) (hT : rs_T S σ) (hS : va_S (rs_A Bm) s.heap H locs) (hl : lv_has ls 5 [(0, .ref (Bm + v0)), (1, .int x1), (2, .int x2), (3, .int x3)]) (hF : B_Mo_peer_64 S.2.2 Q v0 x1 x2 x3 w0 y1 σ) :
    W p l e { frames := 9, cells := 0, slots := 0, locals := 208 } s m args below meth c H locs 0 0 (MQ below (rs_Qv G Bm S Q) args s 0 0 (rs_A Bm)) (F0 m 64 ls [.int y1, .ref (Bm + w0)]) := by
  have hx := C.1
  have hb := C.2.1
  unfold B_Mo_peer_64 at hF
  refine rs_putI C hH hT hS h_w0 fk_11_0 rfl tw_899 d_Mo_peer_64 (fun σ51 H locs eσ51 hH hT hS => ?_)
  replace hF := hF σ51 eσ51
  refine lv_aload_n hx hb d_Mo_peer_67 rfl (lv_at hl 0 rfl) ?_
  refine rs_getI C hH h_v0 fk_11_0 tw_899 d_Mo_peer_68 ?_
  refine lv_if_eq hx hb d_Mo_peer_71 (tgt := 75) rfl (fun hc => ?_) (fun hc => ?_)
  · replace hF := hF.1 hc
    refine lv_aload_n hx hb d_Mo_peer_75 rfl (lv_at hl 0 rfl) ?_
    refine rs_getR C hH hT h_v0 fk_11_1 tw_900 d_Mo_peer_76 (fun h52 => ?_)
    refine lv_iload_n hx hb d_Mo_peer_79 rfl (lv_at hl 1 rfl) ?_
    refine lv_iload_n hx hb d_Mo_peer_80 rfl (lv_at hl 2 rfl) ?_
    obtain ⟨g53, hF⟩ := hF
    refine rs_iast C hH hT hS h52 g53 d_Mo_peer_81 (fun σ54 H locs eσ54 hH hT hS => ?_)
    replace hF := hF σ54 eσ54
    refine lv_aload_n hx hb d_Mo_peer_82 rfl (lv_at hl 0 rfl) ?_
    refine rs_getR C hH hT h_v0 fk_11_2 tw_901 d_Mo_peer_83 (fun h55 => ?_)
    refine lv_iload_n hx hb d_Mo_peer_86 rfl (lv_at hl 1 rfl) ?_
    refine lv_iload_n hx hb d_Mo_peer_87 rfl (lv_at hl 2 rfl) ?_
    refine lv_if_le hx hb d_Mo_peer_88 (tgt := 96) rfl (fun hc => ?_) (fun hc => ?_)
    · replace hF := hF.1 hc
      refine lv_iload_n hx hb d_Mo_peer_96 rfl (lv_at hl 3 rfl) ?_
      exact JB_Mo_peer_97 C v0 (rs_R σ54 v0 2) x1 x3 σ54 _ _ _ h_v0 h55 hH hT hS (lv_sub hl [0] rfl) hF
    · replace hF := hF.2 hc
      refine lv_bipush hx hb d_Mo_peer_91 kb_100 ?_
      refine lv_goto hx hb d_Mo_peer_93 (tgt := 97) rfl ?_
      exact JB_Mo_peer_97 C v0 (rs_R σ54 v0 2) x1 (100 : Int32) σ54 _ _ _ h_v0 h55 hH hT hS (lv_sub hl [0] rfl) hF
  · replace hF := hF.2 hc
    exact rs_vret C hH hT hS hF d_Mo_peer_74
set_option maxRecDepth 20000 in
theorem JB_Mo_peer_38 {p : Program} {l : Launch} {e : Env} {s : State} {m : MethodId} {args : Array Value} {below : List Frame} {meth : Method} {c : Code} {G : rs_G} {Bm : Nat} {S : rs_Shp} {Q : rs_Mem → Prop} (C : rs_C "RouteSpeakerModel" prog_12_method_17_code 5 none G p s m meth c args) (v0 : Nat) (x1 : Int32) (x2 : Int32) (x3 : Int32) (y0 : Int32) (σ : rs_Mem) (H : Heap) (locs : List Loc) (ls : Array Slot) (h_v0 : rs_Ok S 11 v0) (hH : rs_H G Bm S σ H) (hT : rs_T S σ) (hS : va_S (rs_A Bm) s.heap H locs) (hl : lv_has ls 5 [(0, .ref (Bm + v0)), (1, .int x1), (2, .int x2), (3, .int x3)]) (hF : B_Mo_peer_38 S.2.2 Q v0 x1 x2 x3 y0 σ) :
    W p l e { frames := 9, cells := 0, slots := 0, locals := 208 } s m args below meth c H locs 0 0 (MQ below (rs_Qv G Bm S Q) args s 0 0 (rs_A Bm)) (F0 m 38 ls [.int y0]) := by
  have hx := C.1
  have hb := C.2.1
  unfold B_Mo_peer_38 at hF
  refine lv_istore hx hb d_Mo_peer_38 hl (by decide) (lv' := [(4, .int y0), (0, .ref (Bm + v0)), (1, .int x1), (2, .int x2), (3, .int x3)]) rfl (fun ls hl => ?_)
  refine lv_aload_n hx hb d_Mo_peer_40 rfl (lv_at hl 1 rfl) ?_
  refine lv_iload hx hb d_Mo_peer_41 (lv_at hl 0 rfl) ?_
  refine lv_if_ne hx hb d_Mo_peer_43 (tgt := 50) rfl (fun hc => ?_) (fun hc => ?_)
  · replace hF := hF.1 hc
    refine lv_aload_n hx hb d_Mo_peer_50 rfl (lv_at hl 1 rfl) ?_
    refine rs_getR C hH hT h_v0 fk_11_3 tw_902 d_Mo_peer_51 (fun h51 => ?_)
    refine lv_iload_n hx hb d_Mo_peer_54 rfl (lv_at hl 2 rfl) ?_
    obtain ⟨g52, hF⟩ := hF
    refine rs_iald C hH h51 g52 d_Mo_peer_55 ?_
    refine lv_if_eq hx hb d_Mo_peer_56 (tgt := 63) rfl (fun hc => ?_) (fun hc => ?_)
    · replace hF := hF.1 hc
      refine lv_iconst hx hb d_Mo_peer_63 ki_0 ?_
      exact JB_Mo_peer_64 C v0 x1 x2 x3 v0 (0 : Int32) σ _ _ _ h_v0 h_v0 hH hT hS (lv_sub hl [1, 2, 3, 4] rfl) hF
    · replace hF := hF.2 hc
      refine lv_iconst hx hb d_Mo_peer_59 ki_2 ?_
      refine lv_goto hx hb d_Mo_peer_60 (tgt := 64) rfl ?_
      exact JB_Mo_peer_64 C v0 x1 x2 x3 v0 (2 : Int32) σ _ _ _ h_v0 h_v0 hH hT hS (lv_sub hl [1, 2, 3, 4] rfl) hF
  · replace hF := hF.2 hc
    refine lv_iconst hx hb d_Mo_peer_46 ki_1 ?_
    refine lv_goto hx hb d_Mo_peer_47 (tgt := 64) rfl ?_
    exact JB_Mo_peer_64 C v0 x1 x2 x3 v0 (1 : Int32) σ _ _ _ h_v0 h_v0 hH hT hS (lv_sub hl [1, 2, 3, 4] rfl) hF
set_option maxRecDepth 20000 in
theorem JB_Mo_peer_33 {p : Program} {l : Launch} {e : Env} {s : State} {m : MethodId} {args : Array Value} {below : List Frame} {meth : Method} {c : Code} {G : rs_G} {Bm : Nat} {S : rs_Shp} {Q : rs_Mem → Prop} (C : rs_C "RouteSpeakerModel" prog_12_method_17_code 5 none G p s m meth c args) (v0 : Nat) (x1 : Int32) (x2 : Int32) (x3 : Int32) (σ : rs_Mem) (H : Heap) (locs : List Loc) (ls : Array Slot) (h_v0 : rs_Ok S 11 v0) (hH : rs_H G Bm S σ H) (hT : rs_T S σ) (hS : va_S (rs_A Bm) s.heap H locs) (hl : lv_has ls 5 [(0, .ref (Bm + v0)), (1, .int x1), (2, .int x2), (3, .int x3)]) (hF : B_Mo_peer_33 S.2.2 Q v0 x1 x2 x3 σ) :
    W p l e { frames := 9, cells := 0, slots := 0, locals := 208 } s m args below meth c H locs 0 0 (MQ below (rs_Qv G Bm S Q) args s 0 0 (rs_A Bm)) (F0 m 33 ls []) := by
  have hx := C.1
  have hb := C.2.1
  unfold B_Mo_peer_33 at hF
  refine lv_iconst hx hb d_Mo_peer_33 ki_1 ?_
  refine lv_goto hx hb d_Mo_peer_34 (tgt := 38) rfl ?_
  exact JB_Mo_peer_38 C v0 x1 x2 x3 (1 : Int32) σ _ _ _ h_v0 hH hT hS (lv_sub hl [0, 1, 2, 3] rfl) hF
set_option maxRecDepth 20000 in
theorem JB_Mo_peer_37 {p : Program} {l : Launch} {e : Env} {s : State} {m : MethodId} {args : Array Value} {below : List Frame} {meth : Method} {c : Code} {G : rs_G} {Bm : Nat} {S : rs_Shp} {Q : rs_Mem → Prop} (C : rs_C "RouteSpeakerModel" prog_12_method_17_code 5 none G p s m meth c args) (v0 : Nat) (x1 : Int32) (x2 : Int32) (x3 : Int32) (σ : rs_Mem) (H : Heap) (locs : List Loc) (ls : Array Slot) (h_v0 : rs_Ok S 11 v0) (hH : rs_H G Bm S σ H) (hT : rs_T S σ) (hS : va_S (rs_A Bm) s.heap H locs) (hl : lv_has ls 5 [(0, .ref (Bm + v0)), (1, .int x1), (2, .int x2), (3, .int x3)]) (hF : B_Mo_peer_37 S.2.2 Q v0 x1 x2 x3 σ) :
    W p l e { frames := 9, cells := 0, slots := 0, locals := 208 } s m args below meth c H locs 0 0 (MQ below (rs_Qv G Bm S Q) args s 0 0 (rs_A Bm)) (F0 m 37 ls []) := by
  have hx := C.1
  have hb := C.2.1
  unfold B_Mo_peer_37 at hF
  refine lv_iconst hx hb d_Mo_peer_37 ki_0 ?_
  exact JB_Mo_peer_38 C v0 x1 x2 x3 (0 : Int32) σ _ _ _ h_v0 hH hT hS (lv_sub hl [0, 1, 2, 3] rfl) hF
abbrev y_Mo_peer : MethodName := ({ cls := "RouteSpeakerModel", name := "peer", desc := "(III)V" } : Jvm.MethodName)
theorem rc_Mo_peer : rs_Cal y_Mo_peer prog_12_method_17_code 5 none 3 := ⟨tw_1030, tw_11, by decide, by decide, by decide +kernel⟩
set_option maxRecDepth 20000 in
theorem J_Mo_peer (l : Launch) {G : rs_G} {Bm : Nat} {S : rs_Shp} {v0 : Nat} {x1 : Int32} {x2 : Int32} {x3 : Int32} {σ : rs_Mem} {Q : rs_Mem → Prop} (h_v0 : rs_Ok S 11 v0) (hF : F_Mo_peer S.2.2 v0 x1 x2 x3 σ Q) :
    Met l y_Mo_peer (rs_ws y_Mo_peer prog_12_method_17_code 5 none) { frames := 9, cells := 0, slots := 0, locals := 208 } (rs_P G Bm S σ [.ref (Bm + v0), .int x1, .int x2, .int x3]) (rs_Qv G Bm S Q) 0 0 (rs_A Bm) := by
  refine rs_met (own := "RouteSpeakerModel") (by decide) rfl (Nat.le_of_ble_eq_true rfl) (fun p e s m below meth c ls C hl hH hT hS => ?_)
  replace hl : lv_has ls 5 [(0, .ref (Bm + v0)), (1, .int x1), (2, .int x2), (3, .int x3)] := hl
  have hx := C.1
  have hb := C.2.1
  unfold F_Mo_peer at hF
  refine lv_iload_n hx hb d_Mo_peer_0 rfl (lv_at hl 1 rfl) ?_
  refine rs_ci (rs_runS C hH hT hl (J_Mo_isPeer l hF) rc_Mo_isPeer tw_1031 tw_1032 rfl ⟨⟨rfl, rfl⟩, by decide, by decide, by decide⟩ (Nat.le_of_ble_eq_true rfl) rfl d_Mo_peer_1) hS (fun x52 σ51 H locs hH hT hS hF => ?_)
  refine lv_if_eq hx hb d_Mo_peer_4 (tgt := 37) rfl (fun hc => ?_) (fun hc => ?_)
  · replace hF := hF.1 hc
    exact JB_Mo_peer_37 C v0 x1 x2 x3 σ51 _ _ _ h_v0 hH hT hS (lv_sub hl [0, 1, 2, 3] rfl) hF
  · replace hF := hF.2 hc
    refine lv_iload_n hx hb d_Mo_peer_7 rfl (lv_at hl 2 rfl) ?_
    refine lv_if_lt hx hb d_Mo_peer_8 (tgt := 37) rfl (fun hc => ?_) (fun hc => ?_)
    · replace hF := hF.1 hc
      exact JB_Mo_peer_37 C v0 x1 x2 x3 σ51 _ _ _ h_v0 hH hT hS (lv_sub hl [0, 1, 2, 3] rfl) hF
    · replace hF := hF.2 hc
      refine lv_iload_n hx hb d_Mo_peer_11 rfl (lv_at hl 2 rfl) ?_
      refine lv_iconst hx hb d_Mo_peer_12 ki_2 ?_
      refine lv_icmp_gt hx hb d_Mo_peer_13 (tgt := 37) rfl (fun hc => ?_) (fun hc => ?_)
      · replace hF := hF.1 hc
        exact JB_Mo_peer_37 C v0 x1 x2 x3 σ51 _ _ _ h_v0 hH hT hS (lv_sub hl [0, 1, 2, 3] rfl) hF
      · replace hF := hF.2 hc
        refine lv_iload_n hx hb d_Mo_peer_16 rfl (lv_at hl 2 rfl) ?_
        refine lv_if_gt hx hb d_Mo_peer_17 (tgt := 33) rfl (fun hc => ?_) (fun hc => ?_)
        · replace hF := hF.1 hc
          exact JB_Mo_peer_33 C v0 x1 x2 x3 σ51 _ _ _ h_v0 hH hT hS (lv_sub hl [0, 1, 2, 3] rfl) hF
        · replace hF := hF.2 hc
          refine lv_iload_n hx hb d_Mo_peer_20 rfl (lv_at hl 3 rfl) ?_
          refine rs_ci (rs_runS C hH hT hl (J_Mo_isNumber l hF) rc_Mo_isNumber tw_1034 tw_1035 rfl ⟨⟨rfl, rfl⟩, by decide, by decide, by decide⟩ (Nat.le_of_ble_eq_true rfl) rfl d_Mo_peer_21) hS (fun x54 σ53 H locs hH hT hS hF => ?_)
          refine lv_if_eq hx hb d_Mo_peer_24 (tgt := 37) rfl (fun hc => ?_) (fun hc => ?_)
          · replace hF := hF.1 hc
            exact JB_Mo_peer_37 C v0 x1 x2 x3 σ53 _ _ _ h_v0 hH hT hS (lv_sub hl [0, 1, 2, 3] rfl) hF
          · replace hF := hF.2 hc
            refine lv_iload_n hx hb d_Mo_peer_27 rfl (lv_at hl 3 rfl) ?_
            refine lv_bipush hx hb d_Mo_peer_28 kb_100 ?_
            refine lv_icmp_eq hx hb d_Mo_peer_30 (tgt := 37) rfl (fun hc => ?_) (fun hc => ?_)
            · replace hF := hF.1 hc
              exact JB_Mo_peer_37 C v0 x1 x2 x3 σ53 _ _ _ h_v0 hH hT hS (lv_sub hl [0, 1, 2, 3] rfl) hF
            · replace hF := hF.2 hc
              exact JB_Mo_peer_33 C v0 x1 x2 x3 σ53 _ _ _ h_v0 hH hT hS (lv_sub hl [0, 1, 2, 3] rfl) hF
/-! RouteSpeakerModel.rule(IIII)V -/
theorem d_Mo_rule_0 : decode prog_12_method_18_code 0 = .ok (.iload_n 1, 1) := by decide +kernel
theorem d_Mo_rule_1 : decode prog_12_method_18_code 1 = .ok (.invokestatic 158, 3) := by decide +kernel
theorem d_Mo_rule_4 : decode prog_12_method_18_code 4 = .ok (.ifCond .eq (28), 3) := by decide +kernel
theorem d_Mo_rule_7 : decode prog_12_method_18_code 7 = .ok (.iload_n 2, 1) := by decide +kernel
theorem d_Mo_rule_8 : decode prog_12_method_18_code 8 = .ok (.iload_n 3, 1) := by decide +kernel
theorem d_Mo_rule_9 : decode prog_12_method_18_code 9 = .ok (.invokestatic 167, 3) := by decide +kernel
theorem d_Mo_rule_12 : decode prog_12_method_18_code 12 = .ok (.ifCond .eq (20), 3) := by decide +kernel
theorem d_Mo_rule_15 : decode prog_12_method_18_code 15 = .ok (.iload 4, 2) := by decide +kernel
theorem d_Mo_rule_17 : decode prog_12_method_18_code 17 = .ok (.ifCond .lt (15), 3) := by decide +kernel
theorem d_Mo_rule_20 : decode prog_12_method_18_code 20 = .ok (.iload 4, 2) := by decide +kernel
theorem d_Mo_rule_22 : decode prog_12_method_18_code 22 = .ok (.sipush (200), 3) := by decide +kernel
theorem d_Mo_rule_25 : decode prog_12_method_18_code 25 = .ok (.if_icmp .gt (7), 3) := by decide +kernel
theorem d_Mo_rule_28 : decode prog_12_method_18_code 28 = .ok (.iconst 1, 1) := by decide +kernel
theorem d_Mo_rule_29 : decode prog_12_method_18_code 29 = .ok (.goto (4), 3) := by decide +kernel
theorem d_Mo_rule_32 : decode prog_12_method_18_code 32 = .ok (.iconst 0, 1) := by decide +kernel
theorem d_Mo_rule_33 : decode prog_12_method_18_code 33 = .ok (.istore 5, 2) := by decide +kernel
theorem d_Mo_rule_35 : decode prog_12_method_18_code 35 = .ok (.aload_n 0, 1) := by decide +kernel
theorem d_Mo_rule_36 : decode prog_12_method_18_code 36 = .ok (.iload 5, 2) := by decide +kernel
theorem d_Mo_rule_38 : decode prog_12_method_18_code 38 = .ok (.ifCond .ne (7), 3) := by decide +kernel
theorem d_Mo_rule_41 : decode prog_12_method_18_code 41 = .ok (.iconst 1, 1) := by decide +kernel
theorem d_Mo_rule_42 : decode prog_12_method_18_code 42 = .ok (.goto (18), 3) := by decide +kernel
theorem d_Mo_rule_45 : decode prog_12_method_18_code 45 = .ok (.aload_n 0, 1) := by decide +kernel
theorem d_Mo_rule_46 : decode prog_12_method_18_code 46 = .ok (.getfield 40, 3) := by decide +kernel
theorem d_Mo_rule_49 : decode prog_12_method_18_code 49 = .ok (.iload_n 1, 1) := by decide +kernel
theorem d_Mo_rule_50 : decode prog_12_method_18_code 50 = .ok (.iaload, 1) := by decide +kernel
theorem d_Mo_rule_51 : decode prog_12_method_18_code 51 = .ok (.iconst 3, 1) := by decide +kernel
theorem d_Mo_rule_52 : decode prog_12_method_18_code 52 = .ok (.if_icmp .ne (7), 3) := by decide +kernel
theorem d_Mo_rule_55 : decode prog_12_method_18_code 55 = .ok (.iconst 2, 1) := by decide +kernel
theorem d_Mo_rule_56 : decode prog_12_method_18_code 56 = .ok (.goto (4), 3) := by decide +kernel
theorem d_Mo_rule_59 : decode prog_12_method_18_code 59 = .ok (.iconst 0, 1) := by decide +kernel
theorem d_Mo_rule_60 : decode prog_12_method_18_code 60 = .ok (.putfield 126, 3) := by decide +kernel
theorem d_Mo_rule_63 : decode prog_12_method_18_code 63 = .ok (.aload_n 0, 1) := by decide +kernel
theorem d_Mo_rule_64 : decode prog_12_method_18_code 64 = .ok (.getfield 126, 3) := by decide +kernel
theorem d_Mo_rule_67 : decode prog_12_method_18_code 67 = .ok (.ifCond .eq (4), 3) := by decide +kernel
theorem d_Mo_rule_70 : decode prog_12_method_18_code 70 = .ok (.return_, 1) := by decide +kernel
theorem d_Mo_rule_71 : decode prog_12_method_18_code 71 = .ok (.iconst 3, 1) := by decide +kernel
theorem d_Mo_rule_72 : decode prog_12_method_18_code 72 = .ok (.iload_n 1, 1) := by decide +kernel
theorem d_Mo_rule_73 : decode prog_12_method_18_code 73 = .ok (.imul, 1) := by decide +kernel
theorem d_Mo_rule_74 : decode prog_12_method_18_code 74 = .ok (.aload_n 0, 1) := by decide +kernel
theorem d_Mo_rule_75 : decode prog_12_method_18_code 75 = .ok (.getfield 40, 3) := by decide +kernel
theorem d_Mo_rule_78 : decode prog_12_method_18_code 78 = .ok (.iload_n 1, 1) := by decide +kernel
theorem d_Mo_rule_79 : decode prog_12_method_18_code 79 = .ok (.iaload, 1) := by decide +kernel
theorem d_Mo_rule_80 : decode prog_12_method_18_code 80 = .ok (.iadd, 1) := by decide +kernel
theorem d_Mo_rule_81 : decode prog_12_method_18_code 81 = .ok (.istore 6, 2) := by decide +kernel
theorem d_Mo_rule_83 : decode prog_12_method_18_code 83 = .ok (.aload_n 0, 1) := by decide +kernel
theorem d_Mo_rule_84 : decode prog_12_method_18_code 84 = .ok (.getfield 43, 3) := by decide +kernel
theorem d_Mo_rule_87 : decode prog_12_method_18_code 87 = .ok (.iload 6, 2) := by decide +kernel
theorem d_Mo_rule_89 : decode prog_12_method_18_code 89 = .ok (.iload_n 2, 1) := by decide +kernel
theorem d_Mo_rule_90 : decode prog_12_method_18_code 90 = .ok (.iastore, 1) := by decide +kernel
theorem d_Mo_rule_91 : decode prog_12_method_18_code 91 = .ok (.aload_n 0, 1) := by decide +kernel
theorem d_Mo_rule_92 : decode prog_12_method_18_code 92 = .ok (.getfield 46, 3) := by decide +kernel
theorem d_Mo_rule_95 : decode prog_12_method_18_code 95 = .ok (.iload 6, 2) := by decide +kernel
theorem d_Mo_rule_97 : decode prog_12_method_18_code 97 = .ok (.iload_n 3, 1) := by decide +kernel
theorem d_Mo_rule_98 : decode prog_12_method_18_code 98 = .ok (.iastore, 1) := by decide +kernel
theorem d_Mo_rule_99 : decode prog_12_method_18_code 99 = .ok (.aload_n 0, 1) := by decide +kernel
theorem d_Mo_rule_100 : decode prog_12_method_18_code 100 = .ok (.getfield 49, 3) := by decide +kernel
theorem d_Mo_rule_103 : decode prog_12_method_18_code 103 = .ok (.iload 6, 2) := by decide +kernel
theorem d_Mo_rule_105 : decode prog_12_method_18_code 105 = .ok (.iload 4, 2) := by decide +kernel
theorem d_Mo_rule_107 : decode prog_12_method_18_code 107 = .ok (.iastore, 1) := by decide +kernel
theorem d_Mo_rule_108 : decode prog_12_method_18_code 108 = .ok (.aload_n 0, 1) := by decide +kernel
theorem d_Mo_rule_109 : decode prog_12_method_18_code 109 = .ok (.getfield 40, 3) := by decide +kernel
theorem d_Mo_rule_112 : decode prog_12_method_18_code 112 = .ok (.iload_n 1, 1) := by decide +kernel
theorem d_Mo_rule_113 : decode prog_12_method_18_code 113 = .ok (.dup2, 1) := by decide +kernel
theorem d_Mo_rule_114 : decode prog_12_method_18_code 114 = .ok (.iaload, 1) := by decide +kernel
theorem d_Mo_rule_115 : decode prog_12_method_18_code 115 = .ok (.iconst 1, 1) := by decide +kernel
theorem d_Mo_rule_116 : decode prog_12_method_18_code 116 = .ok (.iadd, 1) := by decide +kernel
theorem d_Mo_rule_117 : decode prog_12_method_18_code 117 = .ok (.iastore, 1) := by decide +kernel
theorem d_Mo_rule_118 : decode prog_12_method_18_code 118 = .ok (.aload_n 0, 1) := by decide +kernel
theorem d_Mo_rule_119 : decode prog_12_method_18_code 119 = .ok (.invokevirtual 164, 3) := by decide +kernel
theorem d_Mo_rule_122 : decode prog_12_method_18_code 122 = .ok (.return_, 1) := by decide +kernel
def B_Mo_rule_60 (N : Nat → Nat) (Q : rs_Mem → Prop) (v0 : Nat) (x1 : Int32) (x2 : Int32) (x3 : Int32) (x4 : Int32) (w0 : Nat) (y1 : Int32) (σ : rs_Mem) : Prop :=
  (∀ σ51 : rs_Mem, σ51 = rs_sI σ w0 0 y1 → (((rs_I σ51 v0 0) = 0 → (vp_in x1 (N (rs_R σ51 v0 11)) ∧ (∀ x54 : Int32, x54 = (((3 : Int32) * x1) + (rs_I σ51 (rs_R σ51 v0 11) x1.toNatClampNeg)) → (vp_in x54 (N (rs_R σ51 v0 12)) ∧ ∀ σ57 : rs_Mem, σ57 = rs_sI σ51 (rs_R σ51 v0 12) x54.toNatClampNeg x2 → (vp_in x54 (N (rs_R σ57 v0 13)) ∧ ∀ σ60 : rs_Mem, σ60 = rs_sI σ57 (rs_R σ57 v0 13) x54.toNatClampNeg x3 → (vp_in x54 (N (rs_R σ60 v0 14)) ∧ ∀ σ63 : rs_Mem, σ63 = rs_sI σ60 (rs_R σ60 v0 14) x54.toNatClampNeg x4 → (vp_in x1 (N (rs_R σ63 v0 11)) ∧ (vp_in x1 (N (rs_R σ63 v0 11)) ∧ ∀ σ67 : rs_Mem, σ67 = rs_sI σ63 (rs_R σ63 v0 11) x1.toNatClampNeg ((rs_I σ63 (rs_R σ63 v0 11) x1.toNatClampNeg) + (1 : Int32)) → (F_Mo_tell N v0 σ67 (fun σ68 => (Q σ68))))))))))) ∧ (¬ ((rs_I σ51 v0 0) = 0) → (Q σ51))))
def B_Mo_rule_33 (N : Nat → Nat) (Q : rs_Mem → Prop) (v0 : Nat) (x1 : Int32) (x2 : Int32) (x3 : Int32) (x4 : Int32) (y0 : Int32) (σ : rs_Mem) : Prop :=
  ((¬ (y0 = 0) → (vp_in x1 (N (rs_R σ v0 11)) ∧ ((¬ ((rs_I σ (rs_R σ v0 11) x1.toNatClampNeg) = (3 : Int32)) → (B_Mo_rule_60 N Q v0 x1 x2 x3 x4 v0 (0 : Int32) σ)) ∧ ((rs_I σ (rs_R σ v0 11) x1.toNatClampNeg) = (3 : Int32) → (B_Mo_rule_60 N Q v0 x1 x2 x3 x4 v0 (2 : Int32) σ))))) ∧ (y0 = 0 → (B_Mo_rule_60 N Q v0 x1 x2 x3 x4 v0 (1 : Int32) σ)))
def B_Mo_rule_32 (N : Nat → Nat) (Q : rs_Mem → Prop) (v0 : Nat) (x1 : Int32) (x2 : Int32) (x3 : Int32) (x4 : Int32) (σ : rs_Mem) : Prop :=
  (B_Mo_rule_33 N Q v0 x1 x2 x3 x4 (0 : Int32) σ)
def F_Mo_rule (N : Nat → Nat) (v0 : Nat) (x1 : Int32) (x2 : Int32) (x3 : Int32) (x4 : Int32) (σ : rs_Mem) (Q : rs_Mem → Prop) : Prop :=
  (F_Mo_isPeer N x1 σ (fun x52 σ51 => ((x52 = 0 → (B_Mo_rule_32 N Q v0 x1 x2 x3 x4 σ51)) ∧ (¬ (x52 = 0) → (F_Mo_isPrefix N x2 x3 σ51 (fun x54 σ53 => ((x54 = 0 → (B_Mo_rule_32 N Q v0 x1 x2 x3 x4 σ53)) ∧ (¬ (x54 = 0) → ((x4 < 0 → (B_Mo_rule_32 N Q v0 x1 x2 x3 x4 σ53)) ∧ (¬ (x4 < 0) → (((200 : Int32) < x4 → (B_Mo_rule_32 N Q v0 x1 x2 x3 x4 σ53)) ∧ (¬ ((200 : Int32) < x4) → (B_Mo_rule_33 N Q v0 x1 x2 x3 x4 (1 : Int32) σ53)))))))))))))
set_option maxRecDepth 20000 in
theorem JB_Mo_rule_60 {p : Program} {l : Launch} {e : Env} {s : State} {m : MethodId} {args : Array Value} {below : List Frame} {meth : Method} {c : Code} {G : rs_G} {Bm : Nat} {S : rs_Shp} {Q : rs_Mem → Prop} (C : rs_C "RouteSpeakerModel" prog_12_method_18_code 7 none G p s m meth c args) (v0 : Nat) (x1 : Int32) (x2 : Int32) (x3 : Int32) (x4 : Int32) (w0 : Nat) (y1 : Int32) (σ : rs_Mem) (H : Heap) (locs : List Loc) (ls : Array Slot) (h_v0 : rs_Ok S 11 v0) (h_w0 : rs_Ok S 11 w0) (hH : rs_H G Bm S σ H) (hT : rs_T S σ) (hS : va_S (rs_A Bm) s.heap H locs) (hl : lv_has ls 7 [(0, .ref (Bm + v0)), (1, .int x1), (2, .int x2), (3, .int x3), (4, .int x4)]) (hF : B_Mo_rule_60 S.2.2 Q v0 x1 x2 x3 x4 w0 y1 σ) :
    W p l e { frames := 9, cells := 0, slots := 0, locals := 208 } s m args below meth c H locs 0 0 (MQ below (rs_Qv G Bm S Q) args s 0 0 (rs_A Bm)) (F0 m 60 ls [.int y1, .ref (Bm + w0)]) := by
  have hx := C.1
  have hb := C.2.1
  unfold B_Mo_rule_60 at hF
  refine rs_putI C hH hT hS h_w0 fk_11_0 rfl tw_899 d_Mo_rule_60 (fun σ51 H locs eσ51 hH hT hS => ?_)
  replace hF := hF σ51 eσ51
  refine lv_aload_n hx hb d_Mo_rule_63 rfl (lv_at hl 0 rfl) ?_
  refine rs_getI C hH h_v0 fk_11_0 tw_899 d_Mo_rule_64 ?_
  refine lv_if_eq hx hb d_Mo_rule_67 (tgt := 71) rfl (fun hc => ?_) (fun hc => ?_)
  · replace hF := hF.1 hc
    refine lv_iconst hx hb d_Mo_rule_71 ki_3 ?_
    refine lv_iload_n hx hb d_Mo_rule_72 rfl (lv_at hl 1 rfl) ?_
    refine lv_imul hx hb d_Mo_rule_73 ?_
    refine lv_aload_n hx hb d_Mo_rule_74 rfl (lv_at hl 0 rfl) ?_
    refine rs_getR C hH hT h_v0 fk_11_11 tw_910 d_Mo_rule_75 (fun h52 => ?_)
    refine lv_iload_n hx hb d_Mo_rule_78 rfl (lv_at hl 1 rfl) ?_
    obtain ⟨g53, hF⟩ := hF
    refine rs_iald C hH h52 g53 d_Mo_rule_79 ?_
    refine lv_iadd hx hb d_Mo_rule_80 ?_
    refine lv_topi (fun x54 ex54 => ?_)
    replace hF := hF x54 ex54
    refine lv_istore hx hb d_Mo_rule_81 hl (by decide) (lv' := [(6, .int x54), (0, .ref (Bm + v0)), (1, .int x1), (2, .int x2), (3, .int x3), (4, .int x4)]) rfl (fun ls hl => ?_)
    refine lv_aload_n hx hb d_Mo_rule_83 rfl (lv_at hl 1 rfl) ?_
    refine rs_getR C hH hT h_v0 fk_11_12 tw_911 d_Mo_rule_84 (fun h55 => ?_)
    refine lv_iload hx hb d_Mo_rule_87 (lv_at hl 0 rfl) ?_
    refine lv_iload_n hx hb d_Mo_rule_89 rfl (lv_at hl 3 rfl) ?_
    obtain ⟨g56, hF⟩ := hF
    refine rs_iast C hH hT hS h55 g56 d_Mo_rule_90 (fun σ57 H locs eσ57 hH hT hS => ?_)
    replace hF := hF σ57 eσ57
    refine lv_aload_n hx hb d_Mo_rule_91 rfl (lv_at hl 1 rfl) ?_
    refine rs_getR C hH hT h_v0 fk_11_13 tw_912 d_Mo_rule_92 (fun h58 => ?_)
    refine lv_iload hx hb d_Mo_rule_95 (lv_at hl 0 rfl) ?_
    refine lv_iload_n hx hb d_Mo_rule_97 rfl (lv_at hl 4 rfl) ?_
    obtain ⟨g59, hF⟩ := hF
    refine rs_iast C hH hT hS h58 g59 d_Mo_rule_98 (fun σ60 H locs eσ60 hH hT hS => ?_)
    replace hF := hF σ60 eσ60
    refine lv_aload_n hx hb d_Mo_rule_99 rfl (lv_at hl 1 rfl) ?_
    refine rs_getR C hH hT h_v0 fk_11_14 tw_913 d_Mo_rule_100 (fun h61 => ?_)
    refine lv_iload hx hb d_Mo_rule_103 (lv_at hl 0 rfl) ?_
    refine lv_iload hx hb d_Mo_rule_105 (lv_at hl 5 rfl) ?_
    obtain ⟨g62, hF⟩ := hF
    refine rs_iast C hH hT hS h61 g62 d_Mo_rule_107 (fun σ63 H locs eσ63 hH hT hS => ?_)
    replace hF := hF σ63 eσ63
    refine lv_aload_n hx hb d_Mo_rule_108 rfl (lv_at hl 1 rfl) ?_
    refine rs_getR C hH hT h_v0 fk_11_11 tw_910 d_Mo_rule_109 (fun h64 => ?_)
    refine lv_iload_n hx hb d_Mo_rule_112 rfl (lv_at hl 2 rfl) ?_
    refine lv_dup2_11 hx hb d_Mo_rule_113 rfl rfl ?_
    obtain ⟨g65, hF⟩ := hF
    refine rs_iald C hH h64 g65 d_Mo_rule_114 ?_
    refine lv_iconst hx hb d_Mo_rule_115 ki_1 ?_
    refine lv_iadd hx hb d_Mo_rule_116 ?_
    obtain ⟨g66, hF⟩ := hF
    refine rs_iast C hH hT hS h64 g66 d_Mo_rule_117 (fun σ67 H locs eσ67 hH hT hS => ?_)
    replace hF := hF σ67 eσ67
    refine lv_aload_n hx hb d_Mo_rule_118 rfl (lv_at hl 1 rfl) ?_
    refine rs_cv (rs_runV C hH hT hl (J_Mo_tell l h_v0 hF) rc_Mo_tell tw_1037 tw_1039 ts_34 h_v0 ⟨rfl, by decide, by decide⟩ rfl ⟨⟨rfl, rfl⟩, by decide, by decide, by decide⟩ (Nat.le_of_ble_eq_true rfl) rfl d_Mo_rule_119) hS (fun σ68 H locs hH hT hS hF => ?_)
    exact rs_vret C hH hT hS hF d_Mo_rule_122
  · replace hF := hF.2 hc
    exact rs_vret C hH hT hS hF d_Mo_rule_70
set_option maxRecDepth 20000 in
theorem JB_Mo_rule_33 {p : Program} {l : Launch} {e : Env} {s : State} {m : MethodId} {args : Array Value} {below : List Frame} {meth : Method} {c : Code} {G : rs_G} {Bm : Nat} {S : rs_Shp} {Q : rs_Mem → Prop} (C : rs_C "RouteSpeakerModel" prog_12_method_18_code 7 none G p s m meth c args) (v0 : Nat) (x1 : Int32) (x2 : Int32) (x3 : Int32) (x4 : Int32) (y0 : Int32) (σ : rs_Mem) (H : Heap) (locs : List Loc) (ls : Array Slot) (h_v0 : rs_Ok S 11 v0) (hH : rs_H G Bm S σ H) (hT : rs_T S σ) (hS : va_S (rs_A Bm) s.heap H locs) (hl : lv_has ls 7 [(0, .ref (Bm + v0)), (1, .int x1), (2, .int x2), (3, .int x3), (4, .int x4)]) (hF : B_Mo_rule_33 S.2.2 Q v0 x1 x2 x3 x4 y0 σ) :
    W p l e { frames := 9, cells := 0, slots := 0, locals := 208 } s m args below meth c H locs 0 0 (MQ below (rs_Qv G Bm S Q) args s 0 0 (rs_A Bm)) (F0 m 33 ls [.int y0]) := by
  have hx := C.1
  have hb := C.2.1
  unfold B_Mo_rule_33 at hF
  refine lv_istore hx hb d_Mo_rule_33 hl (by decide) (lv' := [(5, .int y0), (0, .ref (Bm + v0)), (1, .int x1), (2, .int x2), (3, .int x3), (4, .int x4)]) rfl (fun ls hl => ?_)
  refine lv_aload_n hx hb d_Mo_rule_35 rfl (lv_at hl 1 rfl) ?_
  refine lv_iload hx hb d_Mo_rule_36 (lv_at hl 0 rfl) ?_
  refine lv_if_ne hx hb d_Mo_rule_38 (tgt := 45) rfl (fun hc => ?_) (fun hc => ?_)
  · replace hF := hF.1 hc
    refine lv_aload_n hx hb d_Mo_rule_45 rfl (lv_at hl 1 rfl) ?_
    refine rs_getR C hH hT h_v0 fk_11_11 tw_910 d_Mo_rule_46 (fun h51 => ?_)
    refine lv_iload_n hx hb d_Mo_rule_49 rfl (lv_at hl 2 rfl) ?_
    obtain ⟨g52, hF⟩ := hF
    refine rs_iald C hH h51 g52 d_Mo_rule_50 ?_
    refine lv_iconst hx hb d_Mo_rule_51 ki_3 ?_
    refine lv_icmp_ne hx hb d_Mo_rule_52 (tgt := 59) rfl (fun hc => ?_) (fun hc => ?_)
    · replace hF := hF.1 hc
      refine lv_iconst hx hb d_Mo_rule_59 ki_0 ?_
      exact JB_Mo_rule_60 C v0 x1 x2 x3 x4 v0 (0 : Int32) σ _ _ _ h_v0 h_v0 hH hT hS (lv_sub hl [1, 2, 3, 4, 5] rfl) hF
    · replace hF := hF.2 hc
      refine lv_iconst hx hb d_Mo_rule_55 ki_2 ?_
      refine lv_goto hx hb d_Mo_rule_56 (tgt := 60) rfl ?_
      exact JB_Mo_rule_60 C v0 x1 x2 x3 x4 v0 (2 : Int32) σ _ _ _ h_v0 h_v0 hH hT hS (lv_sub hl [1, 2, 3, 4, 5] rfl) hF
  · replace hF := hF.2 hc
    refine lv_iconst hx hb d_Mo_rule_41 ki_1 ?_
    refine lv_goto hx hb d_Mo_rule_42 (tgt := 60) rfl ?_
    exact JB_Mo_rule_60 C v0 x1 x2 x3 x4 v0 (1 : Int32) σ _ _ _ h_v0 h_v0 hH hT hS (lv_sub hl [1, 2, 3, 4, 5] rfl) hF
set_option maxRecDepth 20000 in
theorem JB_Mo_rule_32 {p : Program} {l : Launch} {e : Env} {s : State} {m : MethodId} {args : Array Value} {below : List Frame} {meth : Method} {c : Code} {G : rs_G} {Bm : Nat} {S : rs_Shp} {Q : rs_Mem → Prop} (C : rs_C "RouteSpeakerModel" prog_12_method_18_code 7 none G p s m meth c args) (v0 : Nat) (x1 : Int32) (x2 : Int32) (x3 : Int32) (x4 : Int32) (σ : rs_Mem) (H : Heap) (locs : List Loc) (ls : Array Slot) (h_v0 : rs_Ok S 11 v0) (hH : rs_H G Bm S σ H) (hT : rs_T S σ) (hS : va_S (rs_A Bm) s.heap H locs) (hl : lv_has ls 7 [(0, .ref (Bm + v0)), (1, .int x1), (2, .int x2), (3, .int x3), (4, .int x4)]) (hF : B_Mo_rule_32 S.2.2 Q v0 x1 x2 x3 x4 σ) :
    W p l e { frames := 9, cells := 0, slots := 0, locals := 208 } s m args below meth c H locs 0 0 (MQ below (rs_Qv G Bm S Q) args s 0 0 (rs_A Bm)) (F0 m 32 ls []) := by
  have hx := C.1
  have hb := C.2.1
  unfold B_Mo_rule_32 at hF
  refine lv_iconst hx hb d_Mo_rule_32 ki_0 ?_
  exact JB_Mo_rule_33 C v0 x1 x2 x3 x4 (0 : Int32) σ _ _ _ h_v0 hH hT hS (lv_sub hl [0, 1, 2, 3, 4] rfl) hF
abbrev y_Mo_rule : MethodName := ({ cls := "RouteSpeakerModel", name := "rule", desc := "(IIII)V" } : Jvm.MethodName)
theorem rc_Mo_rule : rs_Cal y_Mo_rule prog_12_method_18_code 7 none 4 := ⟨tw_1135, tw_11, by decide, by decide, by decide +kernel⟩
set_option maxRecDepth 20000 in
theorem J_Mo_rule (l : Launch) {G : rs_G} {Bm : Nat} {S : rs_Shp} {v0 : Nat} {x1 : Int32} {x2 : Int32} {x3 : Int32} {x4 : Int32} {σ : rs_Mem} {Q : rs_Mem → Prop} (h_v0 : rs_Ok S 11 v0) (hF : F_Mo_rule S.2.2 v0 x1 x2 x3 x4 σ Q) :
    Met l y_Mo_rule (rs_ws y_Mo_rule prog_12_method_18_code 7 none) { frames := 9, cells := 0, slots := 0, locals := 208 } (rs_P G Bm S σ [.ref (Bm + v0), .int x1, .int x2, .int x3, .int x4]) (rs_Qv G Bm S Q) 0 0 (rs_A Bm) := by
  refine rs_met (own := "RouteSpeakerModel") (by decide) rfl (Nat.le_of_ble_eq_true rfl) (fun p e s m below meth c ls C hl hH hT hS => ?_)
  replace hl : lv_has ls 7 [(0, .ref (Bm + v0)), (1, .int x1), (2, .int x2), (3, .int x3), (4, .int x4)] := hl
  have hx := C.1
  have hb := C.2.1
  unfold F_Mo_rule at hF
  refine lv_iload_n hx hb d_Mo_rule_0 rfl (lv_at hl 1 rfl) ?_
  refine rs_ci (rs_runS C hH hT hl (J_Mo_isPeer l hF) rc_Mo_isPeer tw_1031 tw_1032 rfl ⟨⟨rfl, rfl⟩, by decide, by decide, by decide⟩ (Nat.le_of_ble_eq_true rfl) rfl d_Mo_rule_1) hS (fun x52 σ51 H locs hH hT hS hF => ?_)
  refine lv_if_eq hx hb d_Mo_rule_4 (tgt := 32) rfl (fun hc => ?_) (fun hc => ?_)
  · replace hF := hF.1 hc
    exact JB_Mo_rule_32 C v0 x1 x2 x3 x4 σ51 _ _ _ h_v0 hH hT hS (lv_sub hl [0, 1, 2, 3, 4] rfl) hF
  · replace hF := hF.2 hc
    refine lv_iload_n hx hb d_Mo_rule_7 rfl (lv_at hl 2 rfl) ?_
    refine lv_iload_n hx hb d_Mo_rule_8 rfl (lv_at hl 3 rfl) ?_
    refine rs_ci (rs_runS C hH hT hl (J_Mo_isPrefix l hF) rc_Mo_isPrefix tw_1136 tw_1137 rfl ⟨⟨rfl, rfl⟩, by decide, by decide, by decide⟩ (Nat.le_of_ble_eq_true rfl) rfl d_Mo_rule_9) hS (fun x54 σ53 H locs hH hT hS hF => ?_)
    refine lv_if_eq hx hb d_Mo_rule_12 (tgt := 32) rfl (fun hc => ?_) (fun hc => ?_)
    · replace hF := hF.1 hc
      exact JB_Mo_rule_32 C v0 x1 x2 x3 x4 σ53 _ _ _ h_v0 hH hT hS (lv_sub hl [0, 1, 2, 3, 4] rfl) hF
    · replace hF := hF.2 hc
      refine lv_iload hx hb d_Mo_rule_15 (lv_at hl 4 rfl) ?_
      refine lv_if_lt hx hb d_Mo_rule_17 (tgt := 32) rfl (fun hc => ?_) (fun hc => ?_)
      · replace hF := hF.1 hc
        exact JB_Mo_rule_32 C v0 x1 x2 x3 x4 σ53 _ _ _ h_v0 hH hT hS (lv_sub hl [0, 1, 2, 3, 4] rfl) hF
      · replace hF := hF.2 hc
        refine lv_iload hx hb d_Mo_rule_20 (lv_at hl 4 rfl) ?_
        refine lv_sipush hx hb d_Mo_rule_22 ks_200 ?_
        refine lv_icmp_gt hx hb d_Mo_rule_25 (tgt := 32) rfl (fun hc => ?_) (fun hc => ?_)
        · replace hF := hF.1 hc
          exact JB_Mo_rule_32 C v0 x1 x2 x3 x4 σ53 _ _ _ h_v0 hH hT hS (lv_sub hl [0, 1, 2, 3, 4] rfl) hF
        · replace hF := hF.2 hc
          refine lv_iconst hx hb d_Mo_rule_28 ki_1 ?_
          refine lv_goto hx hb d_Mo_rule_29 (tgt := 33) rfl ?_
          exact JB_Mo_rule_33 C v0 x1 x2 x3 x4 (1 : Int32) σ53 _ _ _ h_v0 hH hT hS (lv_sub hl [0, 1, 2, 3, 4] rfl) hF
/-! RouteSpeakerModel.unrule(I)V -/
theorem d_Mo_unrule_0 : decode prog_12_method_19_code 0 = .ok (.aload_n 0, 1) := by decide +kernel
theorem d_Mo_unrule_1 : decode prog_12_method_19_code 1 = .ok (.iload_n 1, 1) := by decide +kernel
theorem d_Mo_unrule_2 : decode prog_12_method_19_code 2 = .ok (.invokestatic 158, 3) := by decide +kernel
theorem d_Mo_unrule_5 : decode prog_12_method_19_code 5 = .ok (.ifCond .eq (7), 3) := by decide +kernel
theorem d_Mo_unrule_8 : decode prog_12_method_19_code 8 = .ok (.iconst 0, 1) := by decide +kernel
theorem d_Mo_unrule_9 : decode prog_12_method_19_code 9 = .ok (.goto (4), 3) := by decide +kernel
theorem d_Mo_unrule_12 : decode prog_12_method_19_code 12 = .ok (.iconst 1, 1) := by decide +kernel
theorem d_Mo_unrule_13 : decode prog_12_method_19_code 13 = .ok (.putfield 126, 3) := by decide +kernel
theorem d_Mo_unrule_16 : decode prog_12_method_19_code 16 = .ok (.aload_n 0, 1) := by decide +kernel
theorem d_Mo_unrule_17 : decode prog_12_method_19_code 17 = .ok (.getfield 126, 3) := by decide +kernel
theorem d_Mo_unrule_20 : decode prog_12_method_19_code 20 = .ok (.ifCond .eq (4), 3) := by decide +kernel
theorem d_Mo_unrule_23 : decode prog_12_method_19_code 23 = .ok (.return_, 1) := by decide +kernel
theorem d_Mo_unrule_24 : decode prog_12_method_19_code 24 = .ok (.aload_n 0, 1) := by decide +kernel
theorem d_Mo_unrule_25 : decode prog_12_method_19_code 25 = .ok (.getfield 40, 3) := by decide +kernel
theorem d_Mo_unrule_28 : decode prog_12_method_19_code 28 = .ok (.iload_n 1, 1) := by decide +kernel
theorem d_Mo_unrule_29 : decode prog_12_method_19_code 29 = .ok (.iconst 0, 1) := by decide +kernel
theorem d_Mo_unrule_30 : decode prog_12_method_19_code 30 = .ok (.iastore, 1) := by decide +kernel
theorem d_Mo_unrule_31 : decode prog_12_method_19_code 31 = .ok (.aload_n 0, 1) := by decide +kernel
theorem d_Mo_unrule_32 : decode prog_12_method_19_code 32 = .ok (.invokevirtual 164, 3) := by decide +kernel
theorem d_Mo_unrule_35 : decode prog_12_method_19_code 35 = .ok (.return_, 1) := by decide +kernel
def B_Mo_unrule_13 (N : Nat → Nat) (Q : rs_Mem → Prop) (v0 : Nat) (x1 : Int32) (w0 : Nat) (y1 : Int32) (σ : rs_Mem) : Prop :=
  (∀ σ51 : rs_Mem, σ51 = rs_sI σ w0 0 y1 → (((rs_I σ51 v0 0) = 0 → (vp_in x1 (N (rs_R σ51 v0 11)) ∧ ∀ σ54 : rs_Mem, σ54 = rs_sI σ51 (rs_R σ51 v0 11) x1.toNatClampNeg (0 : Int32) → (F_Mo_tell N v0 σ54 (fun σ55 => (Q σ55))))) ∧ (¬ ((rs_I σ51 v0 0) = 0) → (Q σ51))))
def F_Mo_unrule (N : Nat → Nat) (v0 : Nat) (x1 : Int32) (σ : rs_Mem) (Q : rs_Mem → Prop) : Prop :=
  (F_Mo_isPeer N x1 σ (fun x52 σ51 => ((x52 = 0 → (B_Mo_unrule_13 N Q v0 x1 v0 (1 : Int32) σ51)) ∧ (¬ (x52 = 0) → (B_Mo_unrule_13 N Q v0 x1 v0 (0 : Int32) σ51)))))
set_option maxRecDepth 20000 in
theorem JB_Mo_unrule_13 {p : Program} {l : Launch} {e : Env} {s : State} {m : MethodId} {args : Array Value} {below : List Frame} {meth : Method} {c : Code} {G : rs_G} {Bm : Nat} {S : rs_Shp} {Q : rs_Mem → Prop} (C : rs_C "RouteSpeakerModel" prog_12_method_19_code 2 none G p s m meth c args) (v0 : Nat) (x1 : Int32) (w0 : Nat) (y1 : Int32) (σ : rs_Mem) (H : Heap) (locs : List Loc) (ls : Array Slot) (h_v0 : rs_Ok S 11 v0) (h_w0 : rs_Ok S 11 w0) (hH : rs_H G Bm S σ H) (hT : rs_T S σ) (hS : va_S (rs_A Bm) s.heap H locs) (hl : lv_has ls 2 [(0, .ref (Bm + v0)), (1, .int x1)]) (hF : B_Mo_unrule_13 S.2.2 Q v0 x1 w0 y1 σ) :
    W p l e { frames := 9, cells := 0, slots := 0, locals := 208 } s m args below meth c H locs 0 0 (MQ below (rs_Qv G Bm S Q) args s 0 0 (rs_A Bm)) (F0 m 13 ls [.int y1, .ref (Bm + w0)]) := by
  have hx := C.1
  have hb := C.2.1
  unfold B_Mo_unrule_13 at hF
  refine rs_putI C hH hT hS h_w0 fk_11_0 rfl tw_899 d_Mo_unrule_13 (fun σ51 H locs eσ51 hH hT hS => ?_)
  replace hF := hF σ51 eσ51
  refine lv_aload_n hx hb d_Mo_unrule_16 rfl (lv_at hl 0 rfl) ?_
  refine rs_getI C hH h_v0 fk_11_0 tw_899 d_Mo_unrule_17 ?_
  refine lv_if_eq hx hb d_Mo_unrule_20 (tgt := 24) rfl (fun hc => ?_) (fun hc => ?_)
  · replace hF := hF.1 hc
    refine lv_aload_n hx hb d_Mo_unrule_24 rfl (lv_at hl 0 rfl) ?_
    refine rs_getR C hH hT h_v0 fk_11_11 tw_910 d_Mo_unrule_25 (fun h52 => ?_)
    refine lv_iload_n hx hb d_Mo_unrule_28 rfl (lv_at hl 1 rfl) ?_
    refine lv_iconst hx hb d_Mo_unrule_29 ki_0 ?_
    obtain ⟨g53, hF⟩ := hF
    refine rs_iast C hH hT hS h52 g53 d_Mo_unrule_30 (fun σ54 H locs eσ54 hH hT hS => ?_)
    replace hF := hF σ54 eσ54
    refine lv_aload_n hx hb d_Mo_unrule_31 rfl (lv_at hl 0 rfl) ?_
    refine rs_cv (rs_runV C hH hT hl (J_Mo_tell l h_v0 hF) rc_Mo_tell tw_1037 tw_1039 ts_34 h_v0 ⟨rfl, by decide, by decide⟩ rfl ⟨⟨rfl, rfl⟩, by decide, by decide, by decide⟩ (Nat.le_of_ble_eq_true rfl) rfl d_Mo_unrule_32) hS (fun σ55 H locs hH hT hS hF => ?_)
    exact rs_vret C hH hT hS hF d_Mo_unrule_35
  · replace hF := hF.2 hc
    exact rs_vret C hH hT hS hF d_Mo_unrule_23
abbrev y_Mo_unrule : MethodName := ({ cls := "RouteSpeakerModel", name := "unrule", desc := "(I)V" } : Jvm.MethodName)
theorem rc_Mo_unrule : rs_Cal y_Mo_unrule prog_12_method_19_code 2 none 1 := ⟨tw_1142, tw_11, by decide, by decide, by decide +kernel⟩
set_option maxRecDepth 20000 in
theorem J_Mo_unrule (l : Launch) {G : rs_G} {Bm : Nat} {S : rs_Shp} {v0 : Nat} {x1 : Int32} {σ : rs_Mem} {Q : rs_Mem → Prop} (h_v0 : rs_Ok S 11 v0) (hF : F_Mo_unrule S.2.2 v0 x1 σ Q) :
    Met l y_Mo_unrule (rs_ws y_Mo_unrule prog_12_method_19_code 2 none) { frames := 9, cells := 0, slots := 0, locals := 208 } (rs_P G Bm S σ [.ref (Bm + v0), .int x1]) (rs_Qv G Bm S Q) 0 0 (rs_A Bm) := by
  refine rs_met (own := "RouteSpeakerModel") (by decide) rfl (Nat.le_of_ble_eq_true rfl) (fun p e s m below meth c ls C hl hH hT hS => ?_)
  replace hl : lv_has ls 2 [(0, .ref (Bm + v0)), (1, .int x1)] := hl
  have hx := C.1
  have hb := C.2.1
  unfold F_Mo_unrule at hF
  refine lv_aload_n hx hb d_Mo_unrule_0 rfl (lv_at hl 0 rfl) ?_
  refine lv_iload_n hx hb d_Mo_unrule_1 rfl (lv_at hl 1 rfl) ?_
  refine rs_ci (rs_runS C hH hT hl (J_Mo_isPeer l hF) rc_Mo_isPeer tw_1031 tw_1032 rfl ⟨⟨rfl, rfl⟩, by decide, by decide, by decide⟩ (Nat.le_of_ble_eq_true rfl) rfl d_Mo_unrule_2) hS (fun x52 σ51 H locs hH hT hS hF => ?_)
  refine lv_if_eq hx hb d_Mo_unrule_5 (tgt := 12) rfl (fun hc => ?_) (fun hc => ?_)
  · replace hF := hF.1 hc
    refine lv_iconst hx hb d_Mo_unrule_12 ki_1 ?_
    exact JB_Mo_unrule_13 C v0 x1 v0 (1 : Int32) σ51 _ _ _ h_v0 h_v0 hH hT hS (lv_sub hl [0, 1] rfl) hF
  · replace hF := hF.2 hc
    refine lv_iconst hx hb d_Mo_unrule_8 ki_0 ?_
    refine lv_goto hx hb d_Mo_unrule_9 (tgt := 13) rfl ?_
    exact JB_Mo_unrule_13 C v0 x1 v0 (0 : Int32) σ51 _ _ _ h_v0 h_v0 hH hT hS (lv_sub hl [0, 1] rfl) hF
/-! RouteSpeakerModel.outbound(IIII)V -/
theorem d_Mo_outbound_0 : decode prog_12_method_20_code 0 = .ok (.aload_n 0, 1) := by decide +kernel
theorem d_Mo_outbound_1 : decode prog_12_method_20_code 1 = .ok (.iload_n 1, 1) := by decide +kernel
theorem d_Mo_outbound_2 : decode prog_12_method_20_code 2 = .ok (.invokestatic 158, 3) := by decide +kernel
theorem d_Mo_outbound_5 : decode prog_12_method_20_code 5 = .ok (.ifCond .eq (30), 3) := by decide +kernel
theorem d_Mo_outbound_8 : decode prog_12_method_20_code 8 = .ok (.iload_n 2, 1) := by decide +kernel
theorem d_Mo_outbound_9 : decode prog_12_method_20_code 9 = .ok (.ifCond .lt (26), 3) := by decide +kernel
theorem d_Mo_outbound_12 : decode prog_12_method_20_code 12 = .ok (.iload_n 2, 1) := by decide +kernel
theorem d_Mo_outbound_13 : decode prog_12_method_20_code 13 = .ok (.iconst 3, 1) := by decide +kernel
theorem d_Mo_outbound_14 : decode prog_12_method_20_code 14 = .ok (.if_icmp .gt (21), 3) := by decide +kernel
theorem d_Mo_outbound_17 : decode prog_12_method_20_code 17 = .ok (.iload_n 3, 1) := by decide +kernel
theorem d_Mo_outbound_18 : decode prog_12_method_20_code 18 = .ok (.iconst (-1), 1) := by decide +kernel
theorem d_Mo_outbound_19 : decode prog_12_method_20_code 19 = .ok (.if_icmp .eq (12), 3) := by decide +kernel
theorem d_Mo_outbound_22 : decode prog_12_method_20_code 22 = .ok (.iload_n 3, 1) := by decide +kernel
theorem d_Mo_outbound_23 : decode prog_12_method_20_code 23 = .ok (.iload 4, 2) := by decide +kernel
theorem d_Mo_outbound_25 : decode prog_12_method_20_code 25 = .ok (.invokestatic 167, 3) := by decide +kernel
theorem d_Mo_outbound_28 : decode prog_12_method_20_code 28 = .ok (.ifCond .eq (7), 3) := by decide +kernel
theorem d_Mo_outbound_31 : decode prog_12_method_20_code 31 = .ok (.iconst 0, 1) := by decide +kernel
theorem d_Mo_outbound_32 : decode prog_12_method_20_code 32 = .ok (.goto (4), 3) := by decide +kernel
theorem d_Mo_outbound_35 : decode prog_12_method_20_code 35 = .ok (.iconst 1, 1) := by decide +kernel
theorem d_Mo_outbound_36 : decode prog_12_method_20_code 36 = .ok (.putfield 126, 3) := by decide +kernel
theorem d_Mo_outbound_39 : decode prog_12_method_20_code 39 = .ok (.aload_n 0, 1) := by decide +kernel
theorem d_Mo_outbound_40 : decode prog_12_method_20_code 40 = .ok (.getfield 126, 3) := by decide +kernel
theorem d_Mo_outbound_43 : decode prog_12_method_20_code 43 = .ok (.ifCond .eq (4), 3) := by decide +kernel
theorem d_Mo_outbound_46 : decode prog_12_method_20_code 46 = .ok (.return_, 1) := by decide +kernel
theorem d_Mo_outbound_47 : decode prog_12_method_20_code 47 = .ok (.aload_n 0, 1) := by decide +kernel
theorem d_Mo_outbound_48 : decode prog_12_method_20_code 48 = .ok (.getfield 31, 3) := by decide +kernel
theorem d_Mo_outbound_51 : decode prog_12_method_20_code 51 = .ok (.iload_n 1, 1) := by decide +kernel
theorem d_Mo_outbound_52 : decode prog_12_method_20_code 52 = .ok (.iload_n 2, 1) := by decide +kernel
theorem d_Mo_outbound_53 : decode prog_12_method_20_code 53 = .ok (.iastore, 1) := by decide +kernel
theorem d_Mo_outbound_54 : decode prog_12_method_20_code 54 = .ok (.aload_n 0, 1) := by decide +kernel
theorem d_Mo_outbound_55 : decode prog_12_method_20_code 55 = .ok (.getfield 34, 3) := by decide +kernel
theorem d_Mo_outbound_58 : decode prog_12_method_20_code 58 = .ok (.iload_n 1, 1) := by decide +kernel
theorem d_Mo_outbound_59 : decode prog_12_method_20_code 59 = .ok (.iload_n 3, 1) := by decide +kernel
theorem d_Mo_outbound_60 : decode prog_12_method_20_code 60 = .ok (.iastore, 1) := by decide +kernel
theorem d_Mo_outbound_61 : decode prog_12_method_20_code 61 = .ok (.aload_n 0, 1) := by decide +kernel
theorem d_Mo_outbound_62 : decode prog_12_method_20_code 62 = .ok (.getfield 37, 3) := by decide +kernel
theorem d_Mo_outbound_65 : decode prog_12_method_20_code 65 = .ok (.iload_n 1, 1) := by decide +kernel
theorem d_Mo_outbound_66 : decode prog_12_method_20_code 66 = .ok (.iload 4, 2) := by decide +kernel
theorem d_Mo_outbound_68 : decode prog_12_method_20_code 68 = .ok (.iastore, 1) := by decide +kernel
theorem d_Mo_outbound_69 : decode prog_12_method_20_code 69 = .ok (.aload_n 0, 1) := by decide +kernel
theorem d_Mo_outbound_70 : decode prog_12_method_20_code 70 = .ok (.invokevirtual 164, 3) := by decide +kernel
theorem d_Mo_outbound_73 : decode prog_12_method_20_code 73 = .ok (.return_, 1) := by decide +kernel
def B_Mo_outbound_36 (N : Nat → Nat) (Q : rs_Mem → Prop) (v0 : Nat) (x1 : Int32) (x2 : Int32) (x3 : Int32) (x4 : Int32) (w0 : Nat) (y1 : Int32) (σ : rs_Mem) : Prop :=
  (∀ σ51 : rs_Mem, σ51 = rs_sI σ w0 0 y1 → (((rs_I σ51 v0 0) = 0 → (vp_in x1 (N (rs_R σ51 v0 8)) ∧ ∀ σ54 : rs_Mem, σ54 = rs_sI σ51 (rs_R σ51 v0 8) x1.toNatClampNeg x2 → (vp_in x1 (N (rs_R σ54 v0 9)) ∧ ∀ σ57 : rs_Mem, σ57 = rs_sI σ54 (rs_R σ54 v0 9) x1.toNatClampNeg x3 → (vp_in x1 (N (rs_R σ57 v0 10)) ∧ ∀ σ60 : rs_Mem, σ60 = rs_sI σ57 (rs_R σ57 v0 10) x1.toNatClampNeg x4 → (F_Mo_tell N v0 σ60 (fun σ61 => (Q σ61))))))) ∧ (¬ ((rs_I σ51 v0 0) = 0) → (Q σ51))))
def B_Mo_outbound_31 (N : Nat → Nat) (Q : rs_Mem → Prop) (v0 : Nat) (x1 : Int32) (x2 : Int32) (x3 : Int32) (x4 : Int32) (w0 : Nat) (σ : rs_Mem) : Prop :=
  (B_Mo_outbound_36 N Q v0 x1 x2 x3 x4 w0 (0 : Int32) σ)
def B_Mo_outbound_35 (N : Nat → Nat) (Q : rs_Mem → Prop) (v0 : Nat) (x1 : Int32) (x2 : Int32) (x3 : Int32) (x4 : Int32) (w0 : Nat) (σ : rs_Mem) : Prop :=
  (B_Mo_outbound_36 N Q v0 x1 x2 x3 x4 w0 (1 : Int32) σ)
def F_Mo_outbound (N : Nat → Nat) (v0 : Nat) (x1 : Int32) (x2 : Int32) (x3 : Int32) (x4 : Int32) (σ : rs_Mem) (Q : rs_Mem → Prop) : Prop :=
  (F_Mo_isPeer N x1 σ (fun x52 σ51 => ((x52 = 0 → (B_Mo_outbound_35 N Q v0 x1 x2 x3 x4 v0 σ51)) ∧ (¬ (x52 = 0) → ((x2 < 0 → (B_Mo_outbound_35 N Q v0 x1 x2 x3 x4 v0 σ51)) ∧ (¬ (x2 < 0) → (((3 : Int32) < x2 → (B_Mo_outbound_35 N Q v0 x1 x2 x3 x4 v0 σ51)) ∧ (¬ ((3 : Int32) < x2) → ((x3 = (-1 : Int32) → (B_Mo_outbound_31 N Q v0 x1 x2 x3 x4 v0 σ51)) ∧ (¬ (x3 = (-1 : Int32)) → (F_Mo_isPrefix N x3 x4 σ51 (fun x54 σ53 => ((x54 = 0 → (B_Mo_outbound_35 N Q v0 x1 x2 x3 x4 v0 σ53)) ∧ (¬ (x54 = 0) → (B_Mo_outbound_31 N Q v0 x1 x2 x3 x4 v0 σ53)))))))))))))))
set_option maxRecDepth 20000 in
theorem JB_Mo_outbound_36 {p : Program} {l : Launch} {e : Env} {s : State} {m : MethodId} {args : Array Value} {below : List Frame} {meth : Method} {c : Code} {G : rs_G} {Bm : Nat} {S : rs_Shp} {Q : rs_Mem → Prop} (C : rs_C "RouteSpeakerModel" prog_12_method_20_code 5 none G p s m meth c args) (v0 : Nat) (x1 : Int32) (x2 : Int32) (x3 : Int32) (x4 : Int32) (w0 : Nat) (y1 : Int32) (σ : rs_Mem) (H : Heap) (locs : List Loc) (ls : Array Slot) (h_v0 : rs_Ok S 11 v0) (h_w0 : rs_Ok S 11 w0) (hH : rs_H G Bm S σ H) (hT : rs_T S σ) (hS : va_S (rs_A Bm) s.heap H locs) (hl : lv_has ls 5 [(0, .ref (Bm + v0)), (1, .int x1), (2, .int x2), (3, .int x3), (4, .int x4)]) (hF : B_Mo_outbound_36 S.2.2 Q v0 x1 x2 x3 x4 w0 y1 σ) :
    W p l e { frames := 9, cells := 0, slots := 0, locals := 208 } s m args below meth c H locs 0 0 (MQ below (rs_Qv G Bm S Q) args s 0 0 (rs_A Bm)) (F0 m 36 ls [.int y1, .ref (Bm + w0)]) := by
  have hx := C.1
  have hb := C.2.1
  unfold B_Mo_outbound_36 at hF
  refine rs_putI C hH hT hS h_w0 fk_11_0 rfl tw_899 d_Mo_outbound_36 (fun σ51 H locs eσ51 hH hT hS => ?_)
  replace hF := hF σ51 eσ51
  refine lv_aload_n hx hb d_Mo_outbound_39 rfl (lv_at hl 0 rfl) ?_
  refine rs_getI C hH h_v0 fk_11_0 tw_899 d_Mo_outbound_40 ?_
  refine lv_if_eq hx hb d_Mo_outbound_43 (tgt := 47) rfl (fun hc => ?_) (fun hc => ?_)
  · replace hF := hF.1 hc
    refine lv_aload_n hx hb d_Mo_outbound_47 rfl (lv_at hl 0 rfl) ?_
    refine rs_getR C hH hT h_v0 fk_11_8 tw_907 d_Mo_outbound_48 (fun h52 => ?_)
    refine lv_iload_n hx hb d_Mo_outbound_51 rfl (lv_at hl 1 rfl) ?_
    refine lv_iload_n hx hb d_Mo_outbound_52 rfl (lv_at hl 2 rfl) ?_
    obtain ⟨g53, hF⟩ := hF
    refine rs_iast C hH hT hS h52 g53 d_Mo_outbound_53 (fun σ54 H locs eσ54 hH hT hS => ?_)
    replace hF := hF σ54 eσ54
    refine lv_aload_n hx hb d_Mo_outbound_54 rfl (lv_at hl 0 rfl) ?_
    refine rs_getR C hH hT h_v0 fk_11_9 tw_908 d_Mo_outbound_55 (fun h55 => ?_)
    refine lv_iload_n hx hb d_Mo_outbound_58 rfl (lv_at hl 1 rfl) ?_
    refine lv_iload_n hx hb d_Mo_outbound_59 rfl (lv_at hl 3 rfl) ?_
    obtain ⟨g56, hF⟩ := hF
    refine rs_iast C hH hT hS h55 g56 d_Mo_outbound_60 (fun σ57 H locs eσ57 hH hT hS => ?_)
    replace hF := hF σ57 eσ57
    refine lv_aload_n hx hb d_Mo_outbound_61 rfl (lv_at hl 0 rfl) ?_
    refine rs_getR C hH hT h_v0 fk_11_10 tw_909 d_Mo_outbound_62 (fun h58 => ?_)
    refine lv_iload_n hx hb d_Mo_outbound_65 rfl (lv_at hl 1 rfl) ?_
    refine lv_iload hx hb d_Mo_outbound_66 (lv_at hl 4 rfl) ?_
    obtain ⟨g59, hF⟩ := hF
    refine rs_iast C hH hT hS h58 g59 d_Mo_outbound_68 (fun σ60 H locs eσ60 hH hT hS => ?_)
    replace hF := hF σ60 eσ60
    refine lv_aload_n hx hb d_Mo_outbound_69 rfl (lv_at hl 0 rfl) ?_
    refine rs_cv (rs_runV C hH hT hl (J_Mo_tell l h_v0 hF) rc_Mo_tell tw_1037 tw_1039 ts_34 h_v0 ⟨rfl, by decide, by decide⟩ rfl ⟨⟨rfl, rfl⟩, by decide, by decide, by decide⟩ (Nat.le_of_ble_eq_true rfl) rfl d_Mo_outbound_70) hS (fun σ61 H locs hH hT hS hF => ?_)
    exact rs_vret C hH hT hS hF d_Mo_outbound_73
  · replace hF := hF.2 hc
    exact rs_vret C hH hT hS hF d_Mo_outbound_46
set_option maxRecDepth 20000 in
theorem JB_Mo_outbound_31 {p : Program} {l : Launch} {e : Env} {s : State} {m : MethodId} {args : Array Value} {below : List Frame} {meth : Method} {c : Code} {G : rs_G} {Bm : Nat} {S : rs_Shp} {Q : rs_Mem → Prop} (C : rs_C "RouteSpeakerModel" prog_12_method_20_code 5 none G p s m meth c args) (v0 : Nat) (x1 : Int32) (x2 : Int32) (x3 : Int32) (x4 : Int32) (w0 : Nat) (σ : rs_Mem) (H : Heap) (locs : List Loc) (ls : Array Slot) (h_v0 : rs_Ok S 11 v0) (h_w0 : rs_Ok S 11 w0) (hH : rs_H G Bm S σ H) (hT : rs_T S σ) (hS : va_S (rs_A Bm) s.heap H locs) (hl : lv_has ls 5 [(0, .ref (Bm + v0)), (1, .int x1), (2, .int x2), (3, .int x3), (4, .int x4)]) (hF : B_Mo_outbound_31 S.2.2 Q v0 x1 x2 x3 x4 w0 σ) :
    W p l e { frames := 9, cells := 0, slots := 0, locals := 208 } s m args below meth c H locs 0 0 (MQ below (rs_Qv G Bm S Q) args s 0 0 (rs_A Bm)) (F0 m 31 ls [.ref (Bm + w0)]) := by
  have hx := C.1
  have hb := C.2.1
  unfold B_Mo_outbound_31 at hF
  refine lv_iconst hx hb d_Mo_outbound_31 ki_0 ?_
  refine lv_goto hx hb d_Mo_outbound_32 (tgt := 36) rfl ?_
  exact JB_Mo_outbound_36 C v0 x1 x2 x3 x4 w0 (0 : Int32) σ _ _ _ h_v0 h_w0 hH hT hS (lv_sub hl [0, 1, 2, 3, 4] rfl) hF
set_option maxRecDepth 20000 in
theorem JB_Mo_outbound_35 {p : Program} {l : Launch} {e : Env} {s : State} {m : MethodId} {args : Array Value} {below : List Frame} {meth : Method} {c : Code} {G : rs_G} {Bm : Nat} {S : rs_Shp} {Q : rs_Mem → Prop} (C : rs_C "RouteSpeakerModel" prog_12_method_20_code 5 none G p s m meth c args) (v0 : Nat) (x1 : Int32) (x2 : Int32) (x3 : Int32) (x4 : Int32) (w0 : Nat) (σ : rs_Mem) (H : Heap) (locs : List Loc) (ls : Array Slot) (h_v0 : rs_Ok S 11 v0) (h_w0 : rs_Ok S 11 w0) (hH : rs_H G Bm S σ H) (hT : rs_T S σ) (hS : va_S (rs_A Bm) s.heap H locs) (hl : lv_has ls 5 [(0, .ref (Bm + v0)), (1, .int x1), (2, .int x2), (3, .int x3), (4, .int x4)]) (hF : B_Mo_outbound_35 S.2.2 Q v0 x1 x2 x3 x4 w0 σ) :
    W p l e { frames := 9, cells := 0, slots := 0, locals := 208 } s m args below meth c H locs 0 0 (MQ below (rs_Qv G Bm S Q) args s 0 0 (rs_A Bm)) (F0 m 35 ls [.ref (Bm + w0)]) := by
  have hx := C.1
  have hb := C.2.1
  unfold B_Mo_outbound_35 at hF
  refine lv_iconst hx hb d_Mo_outbound_35 ki_1 ?_
  exact JB_Mo_outbound_36 C v0 x1 x2 x3 x4 w0 (1 : Int32) σ _ _ _ h_v0 h_w0 hH hT hS (lv_sub hl [0, 1, 2, 3, 4] rfl) hF
abbrev y_Mo_outbound : MethodName := ({ cls := "RouteSpeakerModel", name := "outbound", desc := "(IIII)V" } : Jvm.MethodName)
theorem rc_Mo_outbound : rs_Cal y_Mo_outbound prog_12_method_20_code 5 none 4 := ⟨tw_1146, tw_11, by decide, by decide, by decide +kernel⟩
set_option maxRecDepth 20000 in
theorem J_Mo_outbound (l : Launch) {G : rs_G} {Bm : Nat} {S : rs_Shp} {v0 : Nat} {x1 : Int32} {x2 : Int32} {x3 : Int32} {x4 : Int32} {σ : rs_Mem} {Q : rs_Mem → Prop} (h_v0 : rs_Ok S 11 v0) (hF : F_Mo_outbound S.2.2 v0 x1 x2 x3 x4 σ Q) :
    Met l y_Mo_outbound (rs_ws y_Mo_outbound prog_12_method_20_code 5 none) { frames := 9, cells := 0, slots := 0, locals := 208 } (rs_P G Bm S σ [.ref (Bm + v0), .int x1, .int x2, .int x3, .int x4]) (rs_Qv G Bm S Q) 0 0 (rs_A Bm) := by
  refine rs_met (own := "RouteSpeakerModel") (by decide) rfl (Nat.le_of_ble_eq_true rfl) (fun p e s m below meth c ls C hl hH hT hS => ?_)
  replace hl : lv_has ls 5 [(0, .ref (Bm + v0)), (1, .int x1), (2, .int x2), (3, .int x3), (4, .int x4)] := hl
  have hx := C.1
  have hb := C.2.1
  unfold F_Mo_outbound at hF
  refine lv_aload_n hx hb d_Mo_outbound_0 rfl (lv_at hl 0 rfl) ?_
  refine lv_iload_n hx hb d_Mo_outbound_1 rfl (lv_at hl 1 rfl) ?_
  refine rs_ci (rs_runS C hH hT hl (J_Mo_isPeer l hF) rc_Mo_isPeer tw_1031 tw_1032 rfl ⟨⟨rfl, rfl⟩, by decide, by decide, by decide⟩ (Nat.le_of_ble_eq_true rfl) rfl d_Mo_outbound_2) hS (fun x52 σ51 H locs hH hT hS hF => ?_)
  refine lv_if_eq hx hb d_Mo_outbound_5 (tgt := 35) rfl (fun hc => ?_) (fun hc => ?_)
  · replace hF := hF.1 hc
    exact JB_Mo_outbound_35 C v0 x1 x2 x3 x4 v0 σ51 _ _ _ h_v0 h_v0 hH hT hS (lv_sub hl [0, 1, 2, 3, 4] rfl) hF
  · replace hF := hF.2 hc
    refine lv_iload_n hx hb d_Mo_outbound_8 rfl (lv_at hl 2 rfl) ?_
    refine lv_if_lt hx hb d_Mo_outbound_9 (tgt := 35) rfl (fun hc => ?_) (fun hc => ?_)
    · replace hF := hF.1 hc
      exact JB_Mo_outbound_35 C v0 x1 x2 x3 x4 v0 σ51 _ _ _ h_v0 h_v0 hH hT hS (lv_sub hl [0, 1, 2, 3, 4] rfl) hF
    · replace hF := hF.2 hc
      refine lv_iload_n hx hb d_Mo_outbound_12 rfl (lv_at hl 2 rfl) ?_
      refine lv_iconst hx hb d_Mo_outbound_13 ki_3 ?_
      refine lv_icmp_gt hx hb d_Mo_outbound_14 (tgt := 35) rfl (fun hc => ?_) (fun hc => ?_)
      · replace hF := hF.1 hc
        exact JB_Mo_outbound_35 C v0 x1 x2 x3 x4 v0 σ51 _ _ _ h_v0 h_v0 hH hT hS (lv_sub hl [0, 1, 2, 3, 4] rfl) hF
      · replace hF := hF.2 hc
        refine lv_iload_n hx hb d_Mo_outbound_17 rfl (lv_at hl 3 rfl) ?_
        refine lv_iconst hx hb d_Mo_outbound_18 ki_m1 ?_
        refine lv_icmp_eq hx hb d_Mo_outbound_19 (tgt := 31) rfl (fun hc => ?_) (fun hc => ?_)
        · replace hF := hF.1 hc
          exact JB_Mo_outbound_31 C v0 x1 x2 x3 x4 v0 σ51 _ _ _ h_v0 h_v0 hH hT hS (lv_sub hl [0, 1, 2, 3, 4] rfl) hF
        · replace hF := hF.2 hc
          refine lv_iload_n hx hb d_Mo_outbound_22 rfl (lv_at hl 3 rfl) ?_
          refine lv_iload hx hb d_Mo_outbound_23 (lv_at hl 4 rfl) ?_
          refine rs_ci (rs_runS C hH hT hl (J_Mo_isPrefix l hF) rc_Mo_isPrefix tw_1136 tw_1137 rfl ⟨⟨rfl, rfl⟩, by decide, by decide, by decide⟩ (Nat.le_of_ble_eq_true rfl) rfl d_Mo_outbound_25) hS (fun x54 σ53 H locs hH hT hS hF => ?_)
          refine lv_if_eq hx hb d_Mo_outbound_28 (tgt := 35) rfl (fun hc => ?_) (fun hc => ?_)
          · replace hF := hF.1 hc
            exact JB_Mo_outbound_35 C v0 x1 x2 x3 x4 v0 σ53 _ _ _ h_v0 h_v0 hH hT hS (lv_sub hl [0, 1, 2, 3, 4] rfl) hF
          · replace hF := hF.2 hc
            exact JB_Mo_outbound_31 C v0 x1 x2 x3 x4 v0 σ53 _ _ _ h_v0 h_v0 hH hT hS (lv_sub hl [0, 1, 2, 3, 4] rfl) hF
/-! RouteSpeakerModel.originate(II)Z -/
theorem d_Mo_originate_0 : decode prog_12_method_21_code 0 = .ok (.aload_n 0, 1) := by decide +kernel
theorem d_Mo_originate_1 : decode prog_12_method_21_code 1 = .ok (.iload_n 1, 1) := by decide +kernel
theorem d_Mo_originate_2 : decode prog_12_method_21_code 2 = .ok (.iload_n 2, 1) := by decide +kernel
theorem d_Mo_originate_3 : decode prog_12_method_21_code 3 = .ok (.invokestatic 167, 3) := by decide +kernel
theorem d_Mo_originate_6 : decode prog_12_method_21_code 6 = .ok (.ifCond .ne (7), 3) := by decide +kernel
theorem d_Mo_originate_9 : decode prog_12_method_21_code 9 = .ok (.iconst 1, 1) := by decide +kernel
theorem d_Mo_originate_10 : decode prog_12_method_21_code 10 = .ok (.goto (26), 3) := by decide +kernel
theorem d_Mo_originate_13 : decode prog_12_method_21_code 13 = .ok (.aload_n 0, 1) := by decide +kernel
theorem d_Mo_originate_14 : decode prog_12_method_21_code 14 = .ok (.iload_n 1, 1) := by decide +kernel
theorem d_Mo_originate_15 : decode prog_12_method_21_code 15 = .ok (.iload_n 2, 1) := by decide +kernel
theorem d_Mo_originate_16 : decode prog_12_method_21_code 16 = .ok (.invokevirtual 137, 3) := by decide +kernel
theorem d_Mo_originate_19 : decode prog_12_method_21_code 19 = .ok (.ifCond .ge (16), 3) := by decide +kernel
theorem d_Mo_originate_22 : decode prog_12_method_21_code 22 = .ok (.aload_n 0, 1) := by decide +kernel
theorem d_Mo_originate_23 : decode prog_12_method_21_code 23 = .ok (.getfield 134, 3) := by decide +kernel
theorem d_Mo_originate_26 : decode prog_12_method_21_code 26 = .ok (.bipush (12), 2) := by decide +kernel
theorem d_Mo_originate_28 : decode prog_12_method_21_code 28 = .ok (.if_icmp .ne (7), 3) := by decide +kernel
theorem d_Mo_originate_31 : decode prog_12_method_21_code 31 = .ok (.iconst 2, 1) := by decide +kernel
theorem d_Mo_originate_32 : decode prog_12_method_21_code 32 = .ok (.goto (4), 3) := by decide +kernel
theorem d_Mo_originate_35 : decode prog_12_method_21_code 35 = .ok (.iconst 0, 1) := by decide +kernel
theorem d_Mo_originate_36 : decode prog_12_method_21_code 36 = .ok (.putfield 126, 3) := by decide +kernel
theorem d_Mo_originate_39 : decode prog_12_method_21_code 39 = .ok (.aload_n 0, 1) := by decide +kernel
theorem d_Mo_originate_40 : decode prog_12_method_21_code 40 = .ok (.getfield 126, 3) := by decide +kernel
theorem d_Mo_originate_43 : decode prog_12_method_21_code 43 = .ok (.ifCond .eq (5), 3) := by decide +kernel
theorem d_Mo_originate_46 : decode prog_12_method_21_code 46 = .ok (.iconst 0, 1) := by decide +kernel
theorem d_Mo_originate_47 : decode prog_12_method_21_code 47 = .ok (.ireturn, 1) := by decide +kernel
theorem d_Mo_originate_48 : decode prog_12_method_21_code 48 = .ok (.bipush (48), 2) := by decide +kernel
theorem d_Mo_originate_50 : decode prog_12_method_21_code 50 = .ok (.aload_n 0, 1) := by decide +kernel
theorem d_Mo_originate_51 : decode prog_12_method_21_code 51 = .ok (.iload_n 1, 1) := by decide +kernel
theorem d_Mo_originate_52 : decode prog_12_method_21_code 52 = .ok (.iload_n 2, 1) := by decide +kernel
theorem d_Mo_originate_53 : decode prog_12_method_21_code 53 = .ok (.invokevirtual 171, 3) := by decide +kernel
theorem d_Mo_originate_56 : decode prog_12_method_21_code 56 = .ok (.iadd, 1) := by decide +kernel
theorem d_Mo_originate_57 : decode prog_12_method_21_code 57 = .ok (.istore_n 3, 1) := by decide +kernel
theorem d_Mo_originate_58 : decode prog_12_method_21_code 58 = .ok (.aload_n 0, 1) := by decide +kernel
theorem d_Mo_originate_59 : decode prog_12_method_21_code 59 = .ok (.getfield 73, 3) := by decide +kernel
theorem d_Mo_originate_62 : decode prog_12_method_21_code 62 = .ok (.iload_n 3, 1) := by decide +kernel
theorem d_Mo_originate_63 : decode prog_12_method_21_code 63 = .ok (.baload, 1) := by decide +kernel
theorem d_Mo_originate_64 : decode prog_12_method_21_code 64 = .ok (.istore 4, 2) := by decide +kernel
theorem d_Mo_originate_66 : decode prog_12_method_21_code 66 = .ok (.aload_n 0, 1) := by decide +kernel
theorem d_Mo_originate_67 : decode prog_12_method_21_code 67 = .ok (.getfield 73, 3) := by decide +kernel
theorem d_Mo_originate_70 : decode prog_12_method_21_code 70 = .ok (.iload_n 3, 1) := by decide +kernel
theorem d_Mo_originate_71 : decode prog_12_method_21_code 71 = .ok (.iconst 1, 1) := by decide +kernel
theorem d_Mo_originate_72 : decode prog_12_method_21_code 72 = .ok (.bastore, 1) := by decide +kernel
theorem d_Mo_originate_73 : decode prog_12_method_21_code 73 = .ok (.aload_n 0, 1) := by decide +kernel
theorem d_Mo_originate_74 : decode prog_12_method_21_code 74 = .ok (.getfield 77, 3) := by decide +kernel
theorem d_Mo_originate_77 : decode prog_12_method_21_code 77 = .ok (.iload_n 3, 1) := by decide +kernel
theorem d_Mo_originate_78 : decode prog_12_method_21_code 78 = .ok (.iconst 0, 1) := by decide +kernel
theorem d_Mo_originate_79 : decode prog_12_method_21_code 79 = .ok (.iastore, 1) := by decide +kernel
theorem d_Mo_originate_80 : decode prog_12_method_21_code 80 = .ok (.aload_n 0, 1) := by decide +kernel
theorem d_Mo_originate_81 : decode prog_12_method_21_code 81 = .ok (.getfield 80, 3) := by decide +kernel
theorem d_Mo_originate_84 : decode prog_12_method_21_code 84 = .ok (.iload_n 3, 1) := by decide +kernel
theorem d_Mo_originate_85 : decode prog_12_method_21_code 85 = .ok (.iconst 0, 1) := by decide +kernel
theorem d_Mo_originate_86 : decode prog_12_method_21_code 86 = .ok (.iastore, 1) := by decide +kernel
theorem d_Mo_originate_87 : decode prog_12_method_21_code 87 = .ok (.aload_n 0, 1) := by decide +kernel
theorem d_Mo_originate_88 : decode prog_12_method_21_code 88 = .ok (.getfield 86, 3) := by decide +kernel
theorem d_Mo_originate_91 : decode prog_12_method_21_code 91 = .ok (.iload_n 3, 1) := by decide +kernel
theorem d_Mo_originate_92 : decode prog_12_method_21_code 92 = .ok (.bipush (7), 2) := by decide +kernel
theorem d_Mo_originate_94 : decode prog_12_method_21_code 94 = .ok (.iastore, 1) := by decide +kernel
theorem d_Mo_originate_95 : decode prog_12_method_21_code 95 = .ok (.aload_n 0, 1) := by decide +kernel
theorem d_Mo_originate_96 : decode prog_12_method_21_code 96 = .ok (.getfield 89, 3) := by decide +kernel
theorem d_Mo_originate_99 : decode prog_12_method_21_code 99 = .ok (.iload_n 3, 1) := by decide +kernel
theorem d_Mo_originate_100 : decode prog_12_method_21_code 100 = .ok (.iconst (-1), 1) := by decide +kernel
theorem d_Mo_originate_101 : decode prog_12_method_21_code 101 = .ok (.iastore, 1) := by decide +kernel
theorem d_Mo_originate_102 : decode prog_12_method_21_code 102 = .ok (.aload_n 0, 1) := by decide +kernel
theorem d_Mo_originate_103 : decode prog_12_method_21_code 103 = .ok (.getfield 92, 3) := by decide +kernel
theorem d_Mo_originate_106 : decode prog_12_method_21_code 106 = .ok (.iload_n 3, 1) := by decide +kernel
theorem d_Mo_originate_107 : decode prog_12_method_21_code 107 = .ok (.bipush (100), 2) := by decide +kernel
theorem d_Mo_originate_109 : decode prog_12_method_21_code 109 = .ok (.iastore, 1) := by decide +kernel
theorem d_Mo_originate_110 : decode prog_12_method_21_code 110 = .ok (.aload_n 0, 1) := by decide +kernel
theorem d_Mo_originate_111 : decode prog_12_method_21_code 111 = .ok (.getfield 95, 3) := by decide +kernel
theorem d_Mo_originate_114 : decode prog_12_method_21_code 114 = .ok (.iload_n 3, 1) := by decide +kernel
theorem d_Mo_originate_115 : decode prog_12_method_21_code 115 = .ok (.iconst 0, 1) := by decide +kernel
theorem d_Mo_originate_116 : decode prog_12_method_21_code 116 = .ok (.iastore, 1) := by decide +kernel
theorem d_Mo_originate_117 : decode prog_12_method_21_code 117 = .ok (.aload_n 0, 1) := by decide +kernel
theorem d_Mo_originate_118 : decode prog_12_method_21_code 118 = .ok (.getfield 98, 3) := by decide +kernel
theorem d_Mo_originate_121 : decode prog_12_method_21_code 121 = .ok (.iload_n 3, 1) := by decide +kernel
theorem d_Mo_originate_122 : decode prog_12_method_21_code 122 = .ok (.iconst 0, 1) := by decide +kernel
theorem d_Mo_originate_123 : decode prog_12_method_21_code 123 = .ok (.iastore, 1) := by decide +kernel
theorem d_Mo_originate_124 : decode prog_12_method_21_code 124 = .ok (.aload_n 0, 1) := by decide +kernel
theorem d_Mo_originate_125 : decode prog_12_method_21_code 125 = .ok (.invokevirtual 164, 3) := by decide +kernel
theorem d_Mo_originate_128 : decode prog_12_method_21_code 128 = .ok (.iload 4, 2) := by decide +kernel
theorem d_Mo_originate_130 : decode prog_12_method_21_code 130 = .ok (.ifCond .ne (7), 3) := by decide +kernel
theorem d_Mo_originate_133 : decode prog_12_method_21_code 133 = .ok (.iconst 1, 1) := by decide +kernel
theorem d_Mo_originate_134 : decode prog_12_method_21_code 134 = .ok (.goto (4), 3) := by decide +kernel
theorem d_Mo_originate_137 : decode prog_12_method_21_code 137 = .ok (.iconst 0, 1) := by decide +kernel
theorem d_Mo_originate_138 : decode prog_12_method_21_code 138 = .ok (.ireturn, 1) := by decide +kernel
def B_Mo_originate_36 (N : Nat → Nat) (Q : Int32 → rs_Mem → Prop) (v0 : Nat) (x1 : Int32) (x2 : Int32) (w0 : Nat) (y1 : Int32) (σ : rs_Mem) : Prop :=
  (∀ σ51 : rs_Mem, σ51 = rs_sI σ w0 0 y1 → (((rs_I σ51 v0 0) = 0 → (F_Mo_learned N v0 x1 x2 σ51 (fun x53 σ52 => (∀ x54 : Int32, x54 = ((48 : Int32) + x53) → (vp_in x54 (N (rs_R σ52 v0 24)) ∧ (∀ x57 : Int32, x57 = (rs_I σ52 (rs_R σ52 v0 24) x54.toNatClampNeg) → (vp_in x54 (N (rs_R σ52 v0 24)) ∧ ∀ σ60 : rs_Mem, σ60 = rs_sI σ52 (rs_R σ52 v0 24) x54.toNatClampNeg (1 : Int32) → (vp_in x54 (N (rs_R σ60 v0 25)) ∧ ∀ σ63 : rs_Mem, σ63 = rs_sI σ60 (rs_R σ60 v0 25) x54.toNatClampNeg (0 : Int32) → (vp_in x54 (N (rs_R σ63 v0 26)) ∧ ∀ σ66 : rs_Mem, σ66 = rs_sI σ63 (rs_R σ63 v0 26) x54.toNatClampNeg (0 : Int32) → (vp_in x54 (N (rs_R σ66 v0 28)) ∧ ∀ σ69 : rs_Mem, σ69 = rs_sI σ66 (rs_R σ66 v0 28) x54.toNatClampNeg (7 : Int32) → (vp_in x54 (N (rs_R σ69 v0 29)) ∧ ∀ σ72 : rs_Mem, σ72 = rs_sI σ69 (rs_R σ69 v0 29) x54.toNatClampNeg (-1 : Int32) → (vp_in x54 (N (rs_R σ72 v0 30)) ∧ ∀ σ75 : rs_Mem, σ75 = rs_sI σ72 (rs_R σ72 v0 30) x54.toNatClampNeg (100 : Int32) → (vp_in x54 (N (rs_R σ75 v0 31)) ∧ ∀ σ78 : rs_Mem, σ78 = rs_sI σ75 (rs_R σ75 v0 31) x54.toNatClampNeg (0 : Int32) → (vp_in x54 (N (rs_R σ78 v0 32)) ∧ ∀ σ81 : rs_Mem, σ81 = rs_sI σ78 (rs_R σ78 v0 32) x54.toNatClampNeg (0 : Int32) → (F_Mo_tell N v0 σ81 (fun σ82 => ((¬ (x57 = 0) → (Q (0 : Int32) σ82)) ∧ (x57 = 0 → (Q (1 : Int32) σ82))))))))))))))))))) ∧ (¬ ((rs_I σ51 v0 0) = 0) → (Q (0 : Int32) σ51))))
def B_Mo_originate_35 (N : Nat → Nat) (Q : Int32 → rs_Mem → Prop) (v0 : Nat) (x1 : Int32) (x2 : Int32) (w0 : Nat) (σ : rs_Mem) : Prop :=
  (B_Mo_originate_36 N Q v0 x1 x2 w0 (0 : Int32) σ)
def F_Mo_originate (N : Nat → Nat) (v0 : Nat) (x1 : Int32) (x2 : Int32) (σ : rs_Mem) (Q : Int32 → rs_Mem → Prop) : Prop :=
  (F_Mo_isPrefix N x1 x2 σ (fun x52 σ51 => ((¬ (x52 = 0) → (F_Mo_find N v0 x1 x2 σ51 (fun x54 σ53 => ((0 ≤ x54 → (B_Mo_originate_35 N Q v0 x1 x2 v0 σ53)) ∧ (¬ (0 ≤ x54) → ((¬ ((rs_I σ53 v0 21) = (12 : Int32)) → (B_Mo_originate_35 N Q v0 x1 x2 v0 σ53)) ∧ ((rs_I σ53 v0 21) = (12 : Int32) → (B_Mo_originate_36 N Q v0 x1 x2 v0 (2 : Int32) σ53)))))))) ∧ (x52 = 0 → (B_Mo_originate_36 N Q v0 x1 x2 v0 (1 : Int32) σ51)))))
set_option maxRecDepth 20000 in
theorem JB_Mo_originate_36 {p : Program} {l : Launch} {e : Env} {s : State} {m : MethodId} {args : Array Value} {below : List Frame} {meth : Method} {c : Code} {G : rs_G} {Bm : Nat} {S : rs_Shp} {Q : Int32 → rs_Mem → Prop} (C : rs_C "RouteSpeakerModel" prog_12_method_21_code 5 (some .boolean) G p s m meth c args) (v0 : Nat) (x1 : Int32) (x2 : Int32) (w0 : Nat) (y1 : Int32) (σ : rs_Mem) (H : Heap) (locs : List Loc) (ls : Array Slot) (h_v0 : rs_Ok S 11 v0) (h_w0 : rs_Ok S 11 w0) (hH : rs_H G Bm S σ H) (hT : rs_T S σ) (hS : va_S (rs_A Bm) s.heap H locs) (hl : lv_has ls 5 [(0, .ref (Bm + v0)), (1, .int x1), (2, .int x2)]) (hF : B_Mo_originate_36 S.2.2 Q v0 x1 x2 w0 y1 σ) :
    W p l e { frames := 9, cells := 0, slots := 0, locals := 208 } s m args below meth c H locs 0 0 (MQ below (rs_Qi G Bm S Q) args s 0 0 (rs_A Bm)) (F0 m 36 ls [.int y1, .ref (Bm + w0)]) := by
  have hx := C.1
  have hb := C.2.1
  unfold B_Mo_originate_36 at hF
  refine rs_putI C hH hT hS h_w0 fk_11_0 rfl tw_899 d_Mo_originate_36 (fun σ51 H locs eσ51 hH hT hS => ?_)
  replace hF := hF σ51 eσ51
  refine lv_aload_n hx hb d_Mo_originate_39 rfl (lv_at hl 0 rfl) ?_
  refine rs_getI C hH h_v0 fk_11_0 tw_899 d_Mo_originate_40 ?_
  refine lv_if_eq hx hb d_Mo_originate_43 (tgt := 48) rfl (fun hc => ?_) (fun hc => ?_)
  · replace hF := hF.1 hc
    refine lv_bipush hx hb d_Mo_originate_48 kb_48 ?_
    refine lv_aload_n hx hb d_Mo_originate_50 rfl (lv_at hl 0 rfl) ?_
    refine lv_iload_n hx hb d_Mo_originate_51 rfl (lv_at hl 1 rfl) ?_
    refine lv_iload_n hx hb d_Mo_originate_52 rfl (lv_at hl 2 rfl) ?_
    refine rs_ci (rs_runV C hH hT hl (J_Mo_learned l h_v0 hF) rc_Mo_learned tw_1155 tw_1157 ts_57 h_v0 ⟨rfl, by decide, by decide⟩ rfl ⟨⟨rfl, rfl⟩, by decide, by decide, by decide⟩ (Nat.le_of_ble_eq_true rfl) rfl d_Mo_originate_53) hS (fun x53 σ52 H locs hH hT hS hF => ?_)
    refine lv_iadd hx hb d_Mo_originate_56 ?_
    refine lv_topi (fun x54 ex54 => ?_)
    replace hF := hF x54 ex54
    refine lv_istore_n hx hb d_Mo_originate_57 rfl hl (by decide) (lv' := [(3, .int x54), (0, .ref (Bm + v0)), (1, .int x1), (2, .int x2)]) rfl (fun ls hl => ?_)
    refine lv_aload_n hx hb d_Mo_originate_58 rfl (lv_at hl 1 rfl) ?_
    refine rs_getR C hH hT h_v0 fk_11_24 tw_923 d_Mo_originate_59 (fun h55 => ?_)
    refine lv_iload_n hx hb d_Mo_originate_62 rfl (lv_at hl 0 rfl) ?_
    obtain ⟨g56, hF⟩ := hF
    refine rs_zald C hH h55 g56 d_Mo_originate_63 ?_
    refine lv_topi (fun x57 ex57 => ?_)
    replace hF := hF x57 ex57
    refine lv_istore hx hb d_Mo_originate_64 hl (by decide) (lv' := [(4, .int x57), (3, .int x54), (0, .ref (Bm + v0)), (1, .int x1), (2, .int x2)]) rfl (fun ls hl => ?_)
    refine lv_aload_n hx hb d_Mo_originate_66 rfl (lv_at hl 2 rfl) ?_
    refine rs_getR C hH hT h_v0 fk_11_24 tw_923 d_Mo_originate_67 (fun h58 => ?_)
    refine lv_iload_n hx hb d_Mo_originate_70 rfl (lv_at hl 1 rfl) ?_
    refine lv_iconst hx hb d_Mo_originate_71 ki_1 ?_
    obtain ⟨g59, hF⟩ := hF
    refine rs_zast C hH hT hS (by decide) h58 g59 d_Mo_originate_72 (fun σ60 H locs eσ60 hH hT hS => ?_)
    replace hF := hF σ60 eσ60
    refine lv_aload_n hx hb d_Mo_originate_73 rfl (lv_at hl 2 rfl) ?_
    refine rs_getR C hH hT h_v0 fk_11_25 tw_924 d_Mo_originate_74 (fun h61 => ?_)
    refine lv_iload_n hx hb d_Mo_originate_77 rfl (lv_at hl 1 rfl) ?_
    refine lv_iconst hx hb d_Mo_originate_78 ki_0 ?_
    obtain ⟨g62, hF⟩ := hF
    refine rs_iast C hH hT hS h61 g62 d_Mo_originate_79 (fun σ63 H locs eσ63 hH hT hS => ?_)
    replace hF := hF σ63 eσ63
    refine lv_aload_n hx hb d_Mo_originate_80 rfl (lv_at hl 2 rfl) ?_
    refine rs_getR C hH hT h_v0 fk_11_26 tw_925 d_Mo_originate_81 (fun h64 => ?_)
    refine lv_iload_n hx hb d_Mo_originate_84 rfl (lv_at hl 1 rfl) ?_
    refine lv_iconst hx hb d_Mo_originate_85 ki_0 ?_
    obtain ⟨g65, hF⟩ := hF
    refine rs_iast C hH hT hS h64 g65 d_Mo_originate_86 (fun σ66 H locs eσ66 hH hT hS => ?_)
    replace hF := hF σ66 eσ66
    refine lv_aload_n hx hb d_Mo_originate_87 rfl (lv_at hl 2 rfl) ?_
    refine rs_getR C hH hT h_v0 fk_11_28 tw_927 d_Mo_originate_88 (fun h67 => ?_)
    refine lv_iload_n hx hb d_Mo_originate_91 rfl (lv_at hl 1 rfl) ?_
    refine lv_bipush hx hb d_Mo_originate_92 kb_7 ?_
    obtain ⟨g68, hF⟩ := hF
    refine rs_iast C hH hT hS h67 g68 d_Mo_originate_94 (fun σ69 H locs eσ69 hH hT hS => ?_)
    replace hF := hF σ69 eσ69
    refine lv_aload_n hx hb d_Mo_originate_95 rfl (lv_at hl 2 rfl) ?_
    refine rs_getR C hH hT h_v0 fk_11_29 tw_928 d_Mo_originate_96 (fun h70 => ?_)
    refine lv_iload_n hx hb d_Mo_originate_99 rfl (lv_at hl 1 rfl) ?_
    refine lv_iconst hx hb d_Mo_originate_100 ki_m1 ?_
    obtain ⟨g71, hF⟩ := hF
    refine rs_iast C hH hT hS h70 g71 d_Mo_originate_101 (fun σ72 H locs eσ72 hH hT hS => ?_)
    replace hF := hF σ72 eσ72
    refine lv_aload_n hx hb d_Mo_originate_102 rfl (lv_at hl 2 rfl) ?_
    refine rs_getR C hH hT h_v0 fk_11_30 tw_929 d_Mo_originate_103 (fun h73 => ?_)
    refine lv_iload_n hx hb d_Mo_originate_106 rfl (lv_at hl 1 rfl) ?_
    refine lv_bipush hx hb d_Mo_originate_107 kb_100 ?_
    obtain ⟨g74, hF⟩ := hF
    refine rs_iast C hH hT hS h73 g74 d_Mo_originate_109 (fun σ75 H locs eσ75 hH hT hS => ?_)
    replace hF := hF σ75 eσ75
    refine lv_aload_n hx hb d_Mo_originate_110 rfl (lv_at hl 2 rfl) ?_
    refine rs_getR C hH hT h_v0 fk_11_31 tw_930 d_Mo_originate_111 (fun h76 => ?_)
    refine lv_iload_n hx hb d_Mo_originate_114 rfl (lv_at hl 1 rfl) ?_
    refine lv_iconst hx hb d_Mo_originate_115 ki_0 ?_
    obtain ⟨g77, hF⟩ := hF
    refine rs_iast C hH hT hS h76 g77 d_Mo_originate_116 (fun σ78 H locs eσ78 hH hT hS => ?_)
    replace hF := hF σ78 eσ78
    refine lv_aload_n hx hb d_Mo_originate_117 rfl (lv_at hl 2 rfl) ?_
    refine rs_getR C hH hT h_v0 fk_11_32 tw_931 d_Mo_originate_118 (fun h79 => ?_)
    refine lv_iload_n hx hb d_Mo_originate_121 rfl (lv_at hl 1 rfl) ?_
    refine lv_iconst hx hb d_Mo_originate_122 ki_0 ?_
    obtain ⟨g80, hF⟩ := hF
    refine rs_iast C hH hT hS h79 g80 d_Mo_originate_123 (fun σ81 H locs eσ81 hH hT hS => ?_)
    replace hF := hF σ81 eσ81
    refine lv_aload_n hx hb d_Mo_originate_124 rfl (lv_at hl 2 rfl) ?_
    refine rs_cv (rs_runV C hH hT hl (J_Mo_tell l h_v0 hF) rc_Mo_tell tw_1037 tw_1039 ts_34 h_v0 ⟨rfl, by decide, by decide⟩ rfl ⟨⟨rfl, rfl⟩, by decide, by decide, by decide⟩ (Nat.le_of_ble_eq_true rfl) rfl d_Mo_originate_125) hS (fun σ82 H locs hH hT hS hF => ?_)
    refine lv_iload hx hb d_Mo_originate_128 (lv_at hl 0 rfl) ?_
    refine lv_if_ne hx hb d_Mo_originate_130 (tgt := 137) rfl (fun hc => ?_) (fun hc => ?_)
    · replace hF := hF.1 hc
      refine lv_iconst hx hb d_Mo_originate_137 ki_0 ?_
      exact rs_zret C hH hT hS (by decide) hF d_Mo_originate_138
    · replace hF := hF.2 hc
      refine lv_iconst hx hb d_Mo_originate_133 ki_1 ?_
      refine lv_goto hx hb d_Mo_originate_134 (tgt := 138) rfl ?_
      exact rs_zret C hH hT hS (by decide) hF d_Mo_originate_138
  · replace hF := hF.2 hc
    refine lv_iconst hx hb d_Mo_originate_46 ki_0 ?_
    exact rs_zret C hH hT hS (by decide) hF d_Mo_originate_47
set_option maxRecDepth 20000 in
theorem JB_Mo_originate_35 {p : Program} {l : Launch} {e : Env} {s : State} {m : MethodId} {args : Array Value} {below : List Frame} {meth : Method} {c : Code} {G : rs_G} {Bm : Nat} {S : rs_Shp} {Q : Int32 → rs_Mem → Prop} (C : rs_C "RouteSpeakerModel" prog_12_method_21_code 5 (some .boolean) G p s m meth c args) (v0 : Nat) (x1 : Int32) (x2 : Int32) (w0 : Nat) (σ : rs_Mem) (H : Heap) (locs : List Loc) (ls : Array Slot) (h_v0 : rs_Ok S 11 v0) (h_w0 : rs_Ok S 11 w0) (hH : rs_H G Bm S σ H) (hT : rs_T S σ) (hS : va_S (rs_A Bm) s.heap H locs) (hl : lv_has ls 5 [(0, .ref (Bm + v0)), (1, .int x1), (2, .int x2)]) (hF : B_Mo_originate_35 S.2.2 Q v0 x1 x2 w0 σ) :
    W p l e { frames := 9, cells := 0, slots := 0, locals := 208 } s m args below meth c H locs 0 0 (MQ below (rs_Qi G Bm S Q) args s 0 0 (rs_A Bm)) (F0 m 35 ls [.ref (Bm + w0)]) := by
  have hx := C.1
  have hb := C.2.1
  unfold B_Mo_originate_35 at hF
  refine lv_iconst hx hb d_Mo_originate_35 ki_0 ?_
  exact JB_Mo_originate_36 C v0 x1 x2 w0 (0 : Int32) σ _ _ _ h_v0 h_w0 hH hT hS (lv_sub hl [0, 1, 2] rfl) hF
abbrev y_Mo_originate : MethodName := ({ cls := "RouteSpeakerModel", name := "originate", desc := "(II)Z" } : Jvm.MethodName)
theorem rc_Mo_originate : rs_Cal y_Mo_originate prog_12_method_21_code 5 (some .boolean) 2 := ⟨tw_1150, tw_11, by decide, by decide, by decide +kernel⟩
set_option maxRecDepth 20000 in
theorem J_Mo_originate (l : Launch) {G : rs_G} {Bm : Nat} {S : rs_Shp} {v0 : Nat} {x1 : Int32} {x2 : Int32} {σ : rs_Mem} {Q : Int32 → rs_Mem → Prop} (h_v0 : rs_Ok S 11 v0) (hF : F_Mo_originate S.2.2 v0 x1 x2 σ Q) :
    Met l y_Mo_originate (rs_ws y_Mo_originate prog_12_method_21_code 5 (some .boolean)) { frames := 9, cells := 0, slots := 0, locals := 208 } (rs_P G Bm S σ [.ref (Bm + v0), .int x1, .int x2]) (rs_Qi G Bm S Q) 0 0 (rs_A Bm) := by
  refine rs_met (own := "RouteSpeakerModel") (by decide) rfl (Nat.le_of_ble_eq_true rfl) (fun p e s m below meth c ls C hl hH hT hS => ?_)
  replace hl : lv_has ls 5 [(0, .ref (Bm + v0)), (1, .int x1), (2, .int x2)] := hl
  have hx := C.1
  have hb := C.2.1
  unfold F_Mo_originate at hF
  refine lv_aload_n hx hb d_Mo_originate_0 rfl (lv_at hl 0 rfl) ?_
  refine lv_iload_n hx hb d_Mo_originate_1 rfl (lv_at hl 1 rfl) ?_
  refine lv_iload_n hx hb d_Mo_originate_2 rfl (lv_at hl 2 rfl) ?_
  refine rs_ci (rs_runS C hH hT hl (J_Mo_isPrefix l hF) rc_Mo_isPrefix tw_1136 tw_1137 rfl ⟨⟨rfl, rfl⟩, by decide, by decide, by decide⟩ (Nat.le_of_ble_eq_true rfl) rfl d_Mo_originate_3) hS (fun x52 σ51 H locs hH hT hS hF => ?_)
  refine lv_if_ne hx hb d_Mo_originate_6 (tgt := 13) rfl (fun hc => ?_) (fun hc => ?_)
  · replace hF := hF.1 hc
    refine lv_aload_n hx hb d_Mo_originate_13 rfl (lv_at hl 0 rfl) ?_
    refine lv_iload_n hx hb d_Mo_originate_14 rfl (lv_at hl 1 rfl) ?_
    refine lv_iload_n hx hb d_Mo_originate_15 rfl (lv_at hl 2 rfl) ?_
    refine rs_ci (rs_runV C hH hT hl (J_Mo_find l h_v0 hF) rc_Mo_find tw_1151 tw_1153 ts_56 h_v0 ⟨rfl, by decide, by decide⟩ rfl ⟨⟨rfl, rfl⟩, by decide, by decide, by decide⟩ (Nat.le_of_ble_eq_true rfl) rfl d_Mo_originate_16) hS (fun x54 σ53 H locs hH hT hS hF => ?_)
    refine lv_if_ge hx hb d_Mo_originate_19 (tgt := 35) rfl (fun hc => ?_) (fun hc => ?_)
    · replace hF := hF.1 hc
      exact JB_Mo_originate_35 C v0 x1 x2 v0 σ53 _ _ _ h_v0 h_v0 hH hT hS (lv_sub hl [0, 1, 2] rfl) hF
    · replace hF := hF.2 hc
      refine lv_aload_n hx hb d_Mo_originate_22 rfl (lv_at hl 0 rfl) ?_
      refine rs_getI C hH h_v0 fk_11_21 tw_920 d_Mo_originate_23 ?_
      refine lv_bipush hx hb d_Mo_originate_26 kb_12 ?_
      refine lv_icmp_ne hx hb d_Mo_originate_28 (tgt := 35) rfl (fun hc => ?_) (fun hc => ?_)
      · replace hF := hF.1 hc
        exact JB_Mo_originate_35 C v0 x1 x2 v0 σ53 _ _ _ h_v0 h_v0 hH hT hS (lv_sub hl [0, 1, 2] rfl) hF
      · replace hF := hF.2 hc
        refine lv_iconst hx hb d_Mo_originate_31 ki_2 ?_
        refine lv_goto hx hb d_Mo_originate_32 (tgt := 36) rfl ?_
        exact JB_Mo_originate_36 C v0 x1 x2 v0 (2 : Int32) σ53 _ _ _ h_v0 h_v0 hH hT hS (lv_sub hl [0, 1, 2] rfl) hF
  · replace hF := hF.2 hc
    refine lv_iconst hx hb d_Mo_originate_9 ki_1 ?_
    refine lv_goto hx hb d_Mo_originate_10 (tgt := 36) rfl ?_
    exact JB_Mo_originate_36 C v0 x1 x2 v0 (1 : Int32) σ51 _ _ _ h_v0 h_v0 hH hT hS (lv_sub hl [0, 1, 2] rfl) hF
/-! RouteSpeakerModel.retract(II)Z -/
theorem d_Mo_retract_0 : decode prog_12_method_22_code 0 = .ok (.aload_n 0, 1) := by decide +kernel
theorem d_Mo_retract_1 : decode prog_12_method_22_code 1 = .ok (.iload_n 1, 1) := by decide +kernel
theorem d_Mo_retract_2 : decode prog_12_method_22_code 2 = .ok (.iload_n 2, 1) := by decide +kernel
theorem d_Mo_retract_3 : decode prog_12_method_22_code 3 = .ok (.invokestatic 167, 3) := by decide +kernel
theorem d_Mo_retract_6 : decode prog_12_method_22_code 6 = .ok (.ifCond .eq (7), 3) := by decide +kernel
theorem d_Mo_retract_9 : decode prog_12_method_22_code 9 = .ok (.iconst 0, 1) := by decide +kernel
theorem d_Mo_retract_10 : decode prog_12_method_22_code 10 = .ok (.goto (4), 3) := by decide +kernel
theorem d_Mo_retract_13 : decode prog_12_method_22_code 13 = .ok (.iconst 1, 1) := by decide +kernel
theorem d_Mo_retract_14 : decode prog_12_method_22_code 14 = .ok (.putfield 126, 3) := by decide +kernel
theorem d_Mo_retract_17 : decode prog_12_method_22_code 17 = .ok (.aload_n 0, 1) := by decide +kernel
theorem d_Mo_retract_18 : decode prog_12_method_22_code 18 = .ok (.getfield 126, 3) := by decide +kernel
theorem d_Mo_retract_21 : decode prog_12_method_22_code 21 = .ok (.ifCond .ne (12), 3) := by decide +kernel
theorem d_Mo_retract_24 : decode prog_12_method_22_code 24 = .ok (.aload_n 0, 1) := by decide +kernel
theorem d_Mo_retract_25 : decode prog_12_method_22_code 25 = .ok (.iload_n 1, 1) := by decide +kernel
theorem d_Mo_retract_26 : decode prog_12_method_22_code 26 = .ok (.iload_n 2, 1) := by decide +kernel
theorem d_Mo_retract_27 : decode prog_12_method_22_code 27 = .ok (.invokevirtual 137, 3) := by decide +kernel
theorem d_Mo_retract_30 : decode prog_12_method_22_code 30 = .ok (.goto (4), 3) := by decide +kernel
theorem d_Mo_retract_33 : decode prog_12_method_22_code 33 = .ok (.iconst (-1), 1) := by decide +kernel
theorem d_Mo_retract_34 : decode prog_12_method_22_code 34 = .ok (.istore_n 3, 1) := by decide +kernel
theorem d_Mo_retract_35 : decode prog_12_method_22_code 35 = .ok (.iload_n 3, 1) := by decide +kernel
theorem d_Mo_retract_36 : decode prog_12_method_22_code 36 = .ok (.ifCond .lt (15), 3) := by decide +kernel
theorem d_Mo_retract_39 : decode prog_12_method_22_code 39 = .ok (.aload_n 0, 1) := by decide +kernel
theorem d_Mo_retract_40 : decode prog_12_method_22_code 40 = .ok (.getfield 73, 3) := by decide +kernel
theorem d_Mo_retract_43 : decode prog_12_method_22_code 43 = .ok (.bipush (48), 2) := by decide +kernel
theorem d_Mo_retract_45 : decode prog_12_method_22_code 45 = .ok (.iload_n 3, 1) := by decide +kernel
theorem d_Mo_retract_46 : decode prog_12_method_22_code 46 = .ok (.iadd, 1) := by decide +kernel
theorem d_Mo_retract_47 : decode prog_12_method_22_code 47 = .ok (.baload, 1) := by decide +kernel
theorem d_Mo_retract_48 : decode prog_12_method_22_code 48 = .ok (.ifCond .ne (5), 3) := by decide +kernel
theorem d_Mo_retract_51 : decode prog_12_method_22_code 51 = .ok (.iconst 0, 1) := by decide +kernel
theorem d_Mo_retract_52 : decode prog_12_method_22_code 52 = .ok (.ireturn, 1) := by decide +kernel
theorem d_Mo_retract_53 : decode prog_12_method_22_code 53 = .ok (.aload_n 0, 1) := by decide +kernel
theorem d_Mo_retract_54 : decode prog_12_method_22_code 54 = .ok (.getfield 73, 3) := by decide +kernel
theorem d_Mo_retract_57 : decode prog_12_method_22_code 57 = .ok (.bipush (48), 2) := by decide +kernel
theorem d_Mo_retract_59 : decode prog_12_method_22_code 59 = .ok (.iload_n 3, 1) := by decide +kernel
theorem d_Mo_retract_60 : decode prog_12_method_22_code 60 = .ok (.iadd, 1) := by decide +kernel
theorem d_Mo_retract_61 : decode prog_12_method_22_code 61 = .ok (.iconst 0, 1) := by decide +kernel
theorem d_Mo_retract_62 : decode prog_12_method_22_code 62 = .ok (.bastore, 1) := by decide +kernel
theorem d_Mo_retract_63 : decode prog_12_method_22_code 63 = .ok (.aload_n 0, 1) := by decide +kernel
theorem d_Mo_retract_64 : decode prog_12_method_22_code 64 = .ok (.invokevirtual 164, 3) := by decide +kernel
theorem d_Mo_retract_67 : decode prog_12_method_22_code 67 = .ok (.iconst 1, 1) := by decide +kernel
theorem d_Mo_retract_68 : decode prog_12_method_22_code 68 = .ok (.ireturn, 1) := by decide +kernel
def B_Mo_retract_34 (N : Nat → Nat) (Q : Int32 → rs_Mem → Prop) (v0 : Nat) (y0 : Int32) (σ : rs_Mem) : Prop :=
  ((y0 < 0 → (Q (0 : Int32) σ)) ∧ (¬ (y0 < 0) → (vp_in ((48 : Int32) + y0) (N (rs_R σ v0 24)) ∧ ((¬ ((rs_I σ (rs_R σ v0 24) ((48 : Int32) + y0).toNatClampNeg) = 0) → (vp_in ((48 : Int32) + y0) (N (rs_R σ v0 24)) ∧ ∀ σ55 : rs_Mem, σ55 = rs_sI σ (rs_R σ v0 24) ((48 : Int32) + y0).toNatClampNeg (0 : Int32) → (F_Mo_tell N v0 σ55 (fun σ56 => (Q (1 : Int32) σ56))))) ∧ ((rs_I σ (rs_R σ v0 24) ((48 : Int32) + y0).toNatClampNeg) = 0 → (Q (0 : Int32) σ))))))
def B_Mo_retract_14 (N : Nat → Nat) (Q : Int32 → rs_Mem → Prop) (v0 : Nat) (x1 : Int32) (x2 : Int32) (w0 : Nat) (y1 : Int32) (σ : rs_Mem) : Prop :=
  (∀ σ51 : rs_Mem, σ51 = rs_sI σ w0 0 y1 → ((¬ ((rs_I σ51 v0 0) = 0) → (B_Mo_retract_34 N Q v0 (-1 : Int32) σ51)) ∧ ((rs_I σ51 v0 0) = 0 → (F_Mo_find N v0 x1 x2 σ51 (fun x53 σ52 => (B_Mo_retract_34 N Q v0 x53 σ52))))))
def F_Mo_retract (N : Nat → Nat) (v0 : Nat) (x1 : Int32) (x2 : Int32) (σ : rs_Mem) (Q : Int32 → rs_Mem → Prop) : Prop :=
  (F_Mo_isPrefix N x1 x2 σ (fun x52 σ51 => ((x52 = 0 → (B_Mo_retract_14 N Q v0 x1 x2 v0 (1 : Int32) σ51)) ∧ (¬ (x52 = 0) → (B_Mo_retract_14 N Q v0 x1 x2 v0 (0 : Int32) σ51)))))
set_option maxRecDepth 20000 in
theorem JB_Mo_retract_34 {p : Program} {l : Launch} {e : Env} {s : State} {m : MethodId} {args : Array Value} {below : List Frame} {meth : Method} {c : Code} {G : rs_G} {Bm : Nat} {S : rs_Shp} {Q : Int32 → rs_Mem → Prop} (C : rs_C "RouteSpeakerModel" prog_12_method_22_code 4 (some .boolean) G p s m meth c args) (v0 : Nat) (y0 : Int32) (σ : rs_Mem) (H : Heap) (locs : List Loc) (ls : Array Slot) (h_v0 : rs_Ok S 11 v0) (hH : rs_H G Bm S σ H) (hT : rs_T S σ) (hS : va_S (rs_A Bm) s.heap H locs) (hl : lv_has ls 4 [(0, .ref (Bm + v0))]) (hF : B_Mo_retract_34 S.2.2 Q v0 y0 σ) :
    W p l e { frames := 9, cells := 0, slots := 0, locals := 208 } s m args below meth c H locs 0 0 (MQ below (rs_Qi G Bm S Q) args s 0 0 (rs_A Bm)) (F0 m 34 ls [.int y0]) := by
  have hx := C.1
  have hb := C.2.1
  unfold B_Mo_retract_34 at hF
  refine lv_istore_n hx hb d_Mo_retract_34 rfl hl (by decide) (lv' := [(3, .int y0), (0, .ref (Bm + v0))]) rfl (fun ls hl => ?_)
  refine lv_iload_n hx hb d_Mo_retract_35 rfl (lv_at hl 0 rfl) ?_
  refine lv_if_lt hx hb d_Mo_retract_36 (tgt := 51) rfl (fun hc => ?_) (fun hc => ?_)
  · replace hF := hF.1 hc
    refine lv_iconst hx hb d_Mo_retract_51 ki_0 ?_
    exact rs_zret C hH hT hS (by decide) hF d_Mo_retract_52
  · replace hF := hF.2 hc
    refine lv_aload_n hx hb d_Mo_retract_39 rfl (lv_at hl 1 rfl) ?_
    refine rs_getR C hH hT h_v0 fk_11_24 tw_923 d_Mo_retract_40 (fun h51 => ?_)
    refine lv_bipush hx hb d_Mo_retract_43 kb_48 ?_
    refine lv_iload_n hx hb d_Mo_retract_45 rfl (lv_at hl 0 rfl) ?_
    refine lv_iadd hx hb d_Mo_retract_46 ?_
    obtain ⟨g52, hF⟩ := hF
    refine rs_zald C hH h51 g52 d_Mo_retract_47 ?_
    refine lv_if_ne hx hb d_Mo_retract_48 (tgt := 53) rfl (fun hc => ?_) (fun hc => ?_)
    · replace hF := hF.1 hc
      refine lv_aload_n hx hb d_Mo_retract_53 rfl (lv_at hl 1 rfl) ?_
      refine rs_getR C hH hT h_v0 fk_11_24 tw_923 d_Mo_retract_54 (fun h53 => ?_)
      refine lv_bipush hx hb d_Mo_retract_57 kb_48 ?_
      refine lv_iload_n hx hb d_Mo_retract_59 rfl (lv_at hl 0 rfl) ?_
      refine lv_iadd hx hb d_Mo_retract_60 ?_
      refine lv_iconst hx hb d_Mo_retract_61 ki_0 ?_
      obtain ⟨g54, hF⟩ := hF
      refine rs_zast C hH hT hS (by decide) h53 g54 d_Mo_retract_62 (fun σ55 H locs eσ55 hH hT hS => ?_)
      replace hF := hF σ55 eσ55
      refine lv_aload_n hx hb d_Mo_retract_63 rfl (lv_at hl 1 rfl) ?_
      refine rs_cv (rs_runV C hH hT hl (J_Mo_tell l h_v0 hF) rc_Mo_tell tw_1037 tw_1039 ts_34 h_v0 ⟨rfl, by decide, by decide⟩ rfl ⟨⟨rfl, rfl⟩, by decide, by decide, by decide⟩ (Nat.le_of_ble_eq_true rfl) rfl d_Mo_retract_64) hS (fun σ56 H locs hH hT hS hF => ?_)
      refine lv_iconst hx hb d_Mo_retract_67 ki_1 ?_
      exact rs_zret C hH hT hS (by decide) hF d_Mo_retract_68
    · replace hF := hF.2 hc
      refine lv_iconst hx hb d_Mo_retract_51 ki_0 ?_
      exact rs_zret C hH hT hS (by decide) hF d_Mo_retract_52
set_option maxRecDepth 20000 in
theorem JB_Mo_retract_14 {p : Program} {l : Launch} {e : Env} {s : State} {m : MethodId} {args : Array Value} {below : List Frame} {meth : Method} {c : Code} {G : rs_G} {Bm : Nat} {S : rs_Shp} {Q : Int32 → rs_Mem → Prop} (C : rs_C "RouteSpeakerModel" prog_12_method_22_code 4 (some .boolean) G p s m meth c args) (v0 : Nat) (x1 : Int32) (x2 : Int32) (w0 : Nat) (y1 : Int32) (σ : rs_Mem) (H : Heap) (locs : List Loc) (ls : Array Slot) (h_v0 : rs_Ok S 11 v0) (h_w0 : rs_Ok S 11 w0) (hH : rs_H G Bm S σ H) (hT : rs_T S σ) (hS : va_S (rs_A Bm) s.heap H locs) (hl : lv_has ls 4 [(0, .ref (Bm + v0)), (1, .int x1), (2, .int x2)]) (hF : B_Mo_retract_14 S.2.2 Q v0 x1 x2 w0 y1 σ) :
    W p l e { frames := 9, cells := 0, slots := 0, locals := 208 } s m args below meth c H locs 0 0 (MQ below (rs_Qi G Bm S Q) args s 0 0 (rs_A Bm)) (F0 m 14 ls [.int y1, .ref (Bm + w0)]) := by
  have hx := C.1
  have hb := C.2.1
  unfold B_Mo_retract_14 at hF
  refine rs_putI C hH hT hS h_w0 fk_11_0 rfl tw_899 d_Mo_retract_14 (fun σ51 H locs eσ51 hH hT hS => ?_)
  replace hF := hF σ51 eσ51
  refine lv_aload_n hx hb d_Mo_retract_17 rfl (lv_at hl 0 rfl) ?_
  refine rs_getI C hH h_v0 fk_11_0 tw_899 d_Mo_retract_18 ?_
  refine lv_if_ne hx hb d_Mo_retract_21 (tgt := 33) rfl (fun hc => ?_) (fun hc => ?_)
  · replace hF := hF.1 hc
    refine lv_iconst hx hb d_Mo_retract_33 ki_m1 ?_
    exact JB_Mo_retract_34 C v0 (-1 : Int32) σ51 _ _ _ h_v0 hH hT hS (lv_sub hl [0] rfl) hF
  · replace hF := hF.2 hc
    refine lv_aload_n hx hb d_Mo_retract_24 rfl (lv_at hl 0 rfl) ?_
    refine lv_iload_n hx hb d_Mo_retract_25 rfl (lv_at hl 1 rfl) ?_
    refine lv_iload_n hx hb d_Mo_retract_26 rfl (lv_at hl 2 rfl) ?_
    refine rs_ci (rs_runV C hH hT hl (J_Mo_find l h_v0 hF) rc_Mo_find tw_1151 tw_1153 ts_56 h_v0 ⟨rfl, by decide, by decide⟩ rfl ⟨⟨rfl, rfl⟩, by decide, by decide, by decide⟩ (Nat.le_of_ble_eq_true rfl) rfl d_Mo_retract_27) hS (fun x53 σ52 H locs hH hT hS hF => ?_)
    refine lv_goto hx hb d_Mo_retract_30 (tgt := 34) rfl ?_
    exact JB_Mo_retract_34 C v0 x53 σ52 _ _ _ h_v0 hH hT hS (lv_sub hl [0] rfl) hF
abbrev y_Mo_retract : MethodName := ({ cls := "RouteSpeakerModel", name := "retract", desc := "(II)Z" } : Jvm.MethodName)
theorem rc_Mo_retract : rs_Cal y_Mo_retract prog_12_method_22_code 4 (some .boolean) 2 := ⟨tw_1162, tw_11, by decide, by decide, by decide +kernel⟩
set_option maxRecDepth 20000 in
theorem J_Mo_retract (l : Launch) {G : rs_G} {Bm : Nat} {S : rs_Shp} {v0 : Nat} {x1 : Int32} {x2 : Int32} {σ : rs_Mem} {Q : Int32 → rs_Mem → Prop} (h_v0 : rs_Ok S 11 v0) (hF : F_Mo_retract S.2.2 v0 x1 x2 σ Q) :
    Met l y_Mo_retract (rs_ws y_Mo_retract prog_12_method_22_code 4 (some .boolean)) { frames := 9, cells := 0, slots := 0, locals := 208 } (rs_P G Bm S σ [.ref (Bm + v0), .int x1, .int x2]) (rs_Qi G Bm S Q) 0 0 (rs_A Bm) := by
  refine rs_met (own := "RouteSpeakerModel") (by decide) rfl (Nat.le_of_ble_eq_true rfl) (fun p e s m below meth c ls C hl hH hT hS => ?_)
  replace hl : lv_has ls 4 [(0, .ref (Bm + v0)), (1, .int x1), (2, .int x2)] := hl
  have hx := C.1
  have hb := C.2.1
  unfold F_Mo_retract at hF
  refine lv_aload_n hx hb d_Mo_retract_0 rfl (lv_at hl 0 rfl) ?_
  refine lv_iload_n hx hb d_Mo_retract_1 rfl (lv_at hl 1 rfl) ?_
  refine lv_iload_n hx hb d_Mo_retract_2 rfl (lv_at hl 2 rfl) ?_
  refine rs_ci (rs_runS C hH hT hl (J_Mo_isPrefix l hF) rc_Mo_isPrefix tw_1136 tw_1137 rfl ⟨⟨rfl, rfl⟩, by decide, by decide, by decide⟩ (Nat.le_of_ble_eq_true rfl) rfl d_Mo_retract_3) hS (fun x52 σ51 H locs hH hT hS hF => ?_)
  refine lv_if_eq hx hb d_Mo_retract_6 (tgt := 13) rfl (fun hc => ?_) (fun hc => ?_)
  · replace hF := hF.1 hc
    refine lv_iconst hx hb d_Mo_retract_13 ki_1 ?_
    exact JB_Mo_retract_14 C v0 x1 x2 v0 (1 : Int32) σ51 _ _ _ h_v0 h_v0 hH hT hS (lv_sub hl [0, 1, 2] rfl) hF
  · replace hF := hF.2 hc
    refine lv_iconst hx hb d_Mo_retract_9 ki_0 ?_
    refine lv_goto hx hb d_Mo_retract_10 (tgt := 14) rfl ?_
    exact JB_Mo_retract_14 C v0 x1 x2 v0 (0 : Int32) σ51 _ _ _ h_v0 h_v0 hH hT hS (lv_sub hl [0, 1, 2] rfl) hF
