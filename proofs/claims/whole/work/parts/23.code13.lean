/-! RouteSpeakerModel.look(III)V -/
theorem d_Mo_look_0 : decode prog_12_method_27_code 0 = .ok (.aload_n 0, 1) := by decide +kernel
theorem d_Mo_look_1 : decode prog_12_method_27_code 1 = .ok (.getfield 52, 3) := by decide +kernel
theorem d_Mo_look_4 : decode prog_12_method_27_code 4 = .ok (.iload_n 3, 1) := by decide +kernel
theorem d_Mo_look_5 : decode prog_12_method_27_code 5 = .ok (.iconst 1, 1) := by decide +kernel
theorem d_Mo_look_6 : decode prog_12_method_27_code 6 = .ok (.iadd, 1) := by decide +kernel
theorem d_Mo_look_7 : decode prog_12_method_27_code 7 = .ok (.iaload, 1) := by decide +kernel
theorem d_Mo_look_8 : decode prog_12_method_27_code 8 = .ok (.istore 4, 2) := by decide +kernel
theorem d_Mo_look_10 : decode prog_12_method_27_code 10 = .ok (.iload 4, 2) := by decide +kernel
theorem d_Mo_look_12 : decode prog_12_method_27_code 12 = .ok (.iconst 1, 1) := by decide +kernel
theorem d_Mo_look_13 : decode prog_12_method_27_code 13 = .ok (.if_icmp .ne (8), 3) := by decide +kernel
theorem d_Mo_look_16 : decode prog_12_method_27_code 16 = .ok (.bipush (6), 2) := by decide +kernel
theorem d_Mo_look_18 : decode prog_12_method_27_code 18 = .ok (.goto (33), 3) := by decide +kernel
theorem d_Mo_look_21 : decode prog_12_method_27_code 21 = .ok (.iload 4, 2) := by decide +kernel
theorem d_Mo_look_23 : decode prog_12_method_27_code 23 = .ok (.iconst 3, 1) := by decide +kernel
theorem d_Mo_look_24 : decode prog_12_method_27_code 24 = .ok (.if_icmp .ne (7), 3) := by decide +kernel
theorem d_Mo_look_27 : decode prog_12_method_27_code 27 = .ok (.iconst 4, 1) := by decide +kernel
theorem d_Mo_look_28 : decode prog_12_method_27_code 28 = .ok (.goto (23), 3) := by decide +kernel
theorem d_Mo_look_31 : decode prog_12_method_27_code 31 = .ok (.iload 4, 2) := by decide +kernel
theorem d_Mo_look_33 : decode prog_12_method_27_code 33 = .ok (.iconst 4, 1) := by decide +kernel
theorem d_Mo_look_34 : decode prog_12_method_27_code 34 = .ok (.if_icmp .ne (7), 3) := by decide +kernel
theorem d_Mo_look_37 : decode prog_12_method_27_code 37 = .ok (.iconst 2, 1) := by decide +kernel
theorem d_Mo_look_38 : decode prog_12_method_27_code 38 = .ok (.goto (13), 3) := by decide +kernel
theorem d_Mo_look_41 : decode prog_12_method_27_code 41 = .ok (.iload_n 2, 1) := by decide +kernel
theorem d_Mo_look_42 : decode prog_12_method_27_code 42 = .ok (.iconst 4, 1) := by decide +kernel
theorem d_Mo_look_43 : decode prog_12_method_27_code 43 = .ok (.if_icmp .ge (7), 3) := by decide +kernel
theorem d_Mo_look_46 : decode prog_12_method_27_code 46 = .ok (.iconst 4, 1) := by decide +kernel
theorem d_Mo_look_47 : decode prog_12_method_27_code 47 = .ok (.goto (4), 3) := by decide +kernel
theorem d_Mo_look_50 : decode prog_12_method_27_code 50 = .ok (.iload_n 2, 1) := by decide +kernel
theorem d_Mo_look_51 : decode prog_12_method_27_code 51 = .ok (.istore 5, 2) := by decide +kernel
theorem d_Mo_look_53 : decode prog_12_method_27_code 53 = .ok (.iload 4, 2) := by decide +kernel
theorem d_Mo_look_55 : decode prog_12_method_27_code 55 = .ok (.iconst 1, 1) := by decide +kernel
theorem d_Mo_look_56 : decode prog_12_method_27_code 56 = .ok (.if_icmp .lt (9), 3) := by decide +kernel
theorem d_Mo_look_59 : decode prog_12_method_27_code 59 = .ok (.iload 4, 2) := by decide +kernel
theorem d_Mo_look_61 : decode prog_12_method_27_code 61 = .ok (.iconst 4, 1) := by decide +kernel
theorem d_Mo_look_62 : decode prog_12_method_27_code 62 = .ok (.if_icmp .le (13), 3) := by decide +kernel
theorem d_Mo_look_65 : decode prog_12_method_27_code 65 = .ok (.aload_n 0, 1) := by decide +kernel
theorem d_Mo_look_66 : decode prog_12_method_27_code 66 = .ok (.iload_n 1, 1) := by decide +kernel
theorem d_Mo_look_67 : decode prog_12_method_27_code 67 = .ok (.iconst 1, 1) := by decide +kernel
theorem d_Mo_look_68 : decode prog_12_method_27_code 68 = .ok (.iconst 3, 1) := by decide +kernel
theorem d_Mo_look_69 : decode prog_12_method_27_code 69 = .ok (.invokevirtual 174, 3) := by decide +kernel
theorem d_Mo_look_72 : decode prog_12_method_27_code 72 = .ok (.goto (117), 3) := by decide +kernel
theorem d_Mo_look_75 : decode prog_12_method_27_code 75 = .ok (.iload_n 2, 1) := by decide +kernel
theorem d_Mo_look_76 : decode prog_12_method_27_code 76 = .ok (.iload 5, 2) := by decide +kernel
theorem d_Mo_look_78 : decode prog_12_method_27_code 78 = .ok (.if_icmp .eq (13), 3) := by decide +kernel
theorem d_Mo_look_81 : decode prog_12_method_27_code 81 = .ok (.aload_n 0, 1) := by decide +kernel
theorem d_Mo_look_82 : decode prog_12_method_27_code 82 = .ok (.iload_n 1, 1) := by decide +kernel
theorem d_Mo_look_83 : decode prog_12_method_27_code 83 = .ok (.iconst 1, 1) := by decide +kernel
theorem d_Mo_look_84 : decode prog_12_method_27_code 84 = .ok (.iconst 2, 1) := by decide +kernel
theorem d_Mo_look_85 : decode prog_12_method_27_code 85 = .ok (.invokevirtual 174, 3) := by decide +kernel
theorem d_Mo_look_88 : decode prog_12_method_27_code 88 = .ok (.goto (101), 3) := by decide +kernel
theorem d_Mo_look_91 : decode prog_12_method_27_code 91 = .ok (.iload 4, 2) := by decide +kernel
theorem d_Mo_look_93 : decode prog_12_method_27_code 93 = .ok (.iconst 3, 1) := by decide +kernel
theorem d_Mo_look_94 : decode prog_12_method_27_code 94 = .ok (.if_icmp .ne (11), 3) := by decide +kernel
theorem d_Mo_look_97 : decode prog_12_method_27_code 97 = .ok (.aload_n 0, 1) := by decide +kernel
theorem d_Mo_look_98 : decode prog_12_method_27_code 98 = .ok (.iload_n 1, 1) := by decide +kernel
theorem d_Mo_look_99 : decode prog_12_method_27_code 99 = .ok (.invokevirtual 144, 3) := by decide +kernel
theorem d_Mo_look_102 : decode prog_12_method_27_code 102 = .ok (.goto (87), 3) := by decide +kernel
theorem d_Mo_look_105 : decode prog_12_method_27_code 105 = .ok (.aload_n 0, 1) := by decide +kernel
theorem d_Mo_look_106 : decode prog_12_method_27_code 106 = .ok (.getfield 16, 3) := by decide +kernel
theorem d_Mo_look_109 : decode prog_12_method_27_code 109 = .ok (.iload_n 1, 1) := by decide +kernel
theorem d_Mo_look_110 : decode prog_12_method_27_code 110 = .ok (.iaload, 1) := by decide +kernel
theorem d_Mo_look_111 : decode prog_12_method_27_code 111 = .ok (.iconst 1, 1) := by decide +kernel
theorem d_Mo_look_112 : decode prog_12_method_27_code 112 = .ok (.if_icmp .ne (14), 3) := by decide +kernel
theorem d_Mo_look_115 : decode prog_12_method_27_code 115 = .ok (.aload_n 0, 1) := by decide +kernel
theorem d_Mo_look_116 : decode prog_12_method_27_code 116 = .ok (.iload_n 1, 1) := by decide +kernel
theorem d_Mo_look_117 : decode prog_12_method_27_code 117 = .ok (.iload 4, 2) := by decide +kernel
theorem d_Mo_look_119 : decode prog_12_method_27_code 119 = .ok (.iload_n 3, 1) := by decide +kernel
theorem d_Mo_look_120 : decode prog_12_method_27_code 120 = .ok (.invokevirtual 187, 3) := by decide +kernel
theorem d_Mo_look_123 : decode prog_12_method_27_code 123 = .ok (.goto (66), 3) := by decide +kernel
theorem d_Mo_look_126 : decode prog_12_method_27_code 126 = .ok (.aload_n 0, 1) := by decide +kernel
theorem d_Mo_look_127 : decode prog_12_method_27_code 127 = .ok (.getfield 16, 3) := by decide +kernel
theorem d_Mo_look_130 : decode prog_12_method_27_code 130 = .ok (.iload_n 1, 1) := by decide +kernel
theorem d_Mo_look_131 : decode prog_12_method_27_code 131 = .ok (.iaload, 1) := by decide +kernel
theorem d_Mo_look_132 : decode prog_12_method_27_code 132 = .ok (.iconst 2, 1) := by decide +kernel
theorem d_Mo_look_133 : decode prog_12_method_27_code 133 = .ok (.if_icmp .ne (13), 3) := by decide +kernel
theorem d_Mo_look_136 : decode prog_12_method_27_code 136 = .ok (.aload_n 0, 1) := by decide +kernel
theorem d_Mo_look_137 : decode prog_12_method_27_code 137 = .ok (.iload_n 1, 1) := by decide +kernel
theorem d_Mo_look_138 : decode prog_12_method_27_code 138 = .ok (.iload 4, 2) := by decide +kernel
theorem d_Mo_look_140 : decode prog_12_method_27_code 140 = .ok (.invokevirtual 190, 3) := by decide +kernel
theorem d_Mo_look_143 : decode prog_12_method_27_code 143 = .ok (.goto (46), 3) := by decide +kernel
theorem d_Mo_look_146 : decode prog_12_method_27_code 146 = .ok (.iload 4, 2) := by decide +kernel
theorem d_Mo_look_148 : decode prog_12_method_27_code 148 = .ok (.iconst 1, 1) := by decide +kernel
theorem d_Mo_look_149 : decode prog_12_method_27_code 149 = .ok (.if_icmp .ne (13), 3) := by decide +kernel
theorem d_Mo_look_152 : decode prog_12_method_27_code 152 = .ok (.aload_n 0, 1) := by decide +kernel
theorem d_Mo_look_153 : decode prog_12_method_27_code 153 = .ok (.iload_n 1, 1) := by decide +kernel
theorem d_Mo_look_154 : decode prog_12_method_27_code 154 = .ok (.iconst 5, 1) := by decide +kernel
theorem d_Mo_look_155 : decode prog_12_method_27_code 155 = .ok (.iconst 3, 1) := by decide +kernel
theorem d_Mo_look_156 : decode prog_12_method_27_code 156 = .ok (.invokevirtual 174, 3) := by decide +kernel
theorem d_Mo_look_159 : decode prog_12_method_27_code 159 = .ok (.goto (30), 3) := by decide +kernel
theorem d_Mo_look_162 : decode prog_12_method_27_code 162 = .ok (.aload_n 0, 1) := by decide +kernel
theorem d_Mo_look_163 : decode prog_12_method_27_code 163 = .ok (.getfield 19, 3) := by decide +kernel
theorem d_Mo_look_166 : decode prog_12_method_27_code 166 = .ok (.iload_n 1, 1) := by decide +kernel
theorem d_Mo_look_167 : decode prog_12_method_27_code 167 = .ok (.aload_n 0, 1) := by decide +kernel
theorem d_Mo_look_168 : decode prog_12_method_27_code 168 = .ok (.getfield 25, 3) := by decide +kernel
theorem d_Mo_look_171 : decode prog_12_method_27_code 171 = .ok (.iload_n 1, 1) := by decide +kernel
theorem d_Mo_look_172 : decode prog_12_method_27_code 172 = .ok (.iaload, 1) := by decide +kernel
theorem d_Mo_look_173 : decode prog_12_method_27_code 173 = .ok (.iastore, 1) := by decide +kernel
theorem d_Mo_look_174 : decode prog_12_method_27_code 174 = .ok (.iload 4, 2) := by decide +kernel
theorem d_Mo_look_176 : decode prog_12_method_27_code 176 = .ok (.iconst 2, 1) := by decide +kernel
theorem d_Mo_look_177 : decode prog_12_method_27_code 177 = .ok (.if_icmp .ne (12), 3) := by decide +kernel
theorem d_Mo_look_180 : decode prog_12_method_27_code 180 = .ok (.aload_n 0, 1) := by decide +kernel
theorem d_Mo_look_181 : decode prog_12_method_27_code 181 = .ok (.iload_n 1, 1) := by decide +kernel
theorem d_Mo_look_182 : decode prog_12_method_27_code 182 = .ok (.iload_n 3, 1) := by decide +kernel
theorem d_Mo_look_183 : decode prog_12_method_27_code 183 = .ok (.iload_n 3, 1) := by decide +kernel
theorem d_Mo_look_184 : decode prog_12_method_27_code 184 = .ok (.iload_n 2, 1) := by decide +kernel
theorem d_Mo_look_185 : decode prog_12_method_27_code 185 = .ok (.iadd, 1) := by decide +kernel
theorem d_Mo_look_186 : decode prog_12_method_27_code 186 = .ok (.invokevirtual 193, 3) := by decide +kernel
theorem d_Mo_look_189 : decode prog_12_method_27_code 189 = .ok (.return_, 1) := by decide +kernel
def B_Mo_look_65 (N : Nat → Nat) (Q : rs_Mem → Prop) (v0 : Nat) (x1 : Int32) (σ : rs_Mem) : Prop :=
  (F_Mo_end N v0 x1 (1 : Int32) (3 : Int32) σ (fun σ51 => (Q σ51)))
def B_Mo_look_51 (N : Nat → Nat) (Q : rs_Mem → Prop) (v0 : Nat) (x1 : Int32) (x2 : Int32) (x3 : Int32) (x4 : Int32) (y0 : Int32) (σ : rs_Mem) : Prop :=
  ((x4 < (1 : Int32) → (B_Mo_look_65 N Q v0 x1 σ)) ∧ (¬ (x4 < (1 : Int32)) → ((x4 ≤ (4 : Int32) → ((x2 = y0 → ((¬ (x4 = (3 : Int32)) → (vp_in x1 (N (rs_R σ v0 3)) ∧ ((¬ ((rs_I σ (rs_R σ v0 3) x1.toNatClampNeg) = (1 : Int32)) → (vp_in x1 (N (rs_R σ v0 3)) ∧ ((¬ ((rs_I σ (rs_R σ v0 3) x1.toNatClampNeg) = (2 : Int32)) → ((¬ (x4 = (1 : Int32)) → (vp_in x1 (N (rs_R σ v0 6)) ∧ (vp_in x1 (N (rs_R σ v0 4)) ∧ ∀ σ59 : rs_Mem, σ59 = rs_sI σ (rs_R σ v0 4) x1.toNatClampNeg (rs_I σ (rs_R σ v0 6) x1.toNatClampNeg) → ((¬ (x4 = (2 : Int32)) → (Q σ59)) ∧ (x4 = (2 : Int32) → (F_Mo_update N v0 x1 x3 (x3 + x2) σ59 (fun σ60 => (Q σ60)))))))) ∧ (x4 = (1 : Int32) → (F_Mo_end N v0 x1 (5 : Int32) (3 : Int32) σ (fun σ55 => (Q σ55)))))) ∧ ((rs_I σ (rs_R σ v0 3) x1.toNatClampNeg) = (2 : Int32) → (F_Mo_agreed N v0 x1 x4 σ (fun σ55 => (Q σ55))))))) ∧ ((rs_I σ (rs_R σ v0 3) x1.toNatClampNeg) = (1 : Int32) → (F_Mo_opened N v0 x1 x4 x3 σ (fun σ53 => (Q σ53))))))) ∧ (x4 = (3 : Int32) → (F_Mo_close N v0 x1 σ (fun σ51 => (Q σ51)))))) ∧ (¬ (x2 = y0) → (F_Mo_end N v0 x1 (1 : Int32) (2 : Int32) σ (fun σ51 => (Q σ51)))))) ∧ (¬ (x4 ≤ (4 : Int32)) → (B_Mo_look_65 N Q v0 x1 σ)))))
def F_Mo_look (N : Nat → Nat) (v0 : Nat) (x1 : Int32) (x2 : Int32) (x3 : Int32) (σ : rs_Mem) (Q : rs_Mem → Prop) : Prop :=
  (vp_in (x3 + (1 : Int32)) (N (rs_R σ v0 15)) ∧ (∀ x53 : Int32, x53 = (rs_I σ (rs_R σ v0 15) (x3 + (1 : Int32)).toNatClampNeg) → ((¬ (x53 = (1 : Int32)) → ((¬ (x53 = (3 : Int32)) → ((¬ (x53 = (4 : Int32)) → (((4 : Int32) ≤ x2 → (B_Mo_look_51 N Q v0 x1 x2 x3 x53 x2 σ)) ∧ (¬ ((4 : Int32) ≤ x2) → (B_Mo_look_51 N Q v0 x1 x2 x3 x53 (4 : Int32) σ)))) ∧ (x53 = (4 : Int32) → (B_Mo_look_51 N Q v0 x1 x2 x3 x53 (2 : Int32) σ)))) ∧ (x53 = (3 : Int32) → (B_Mo_look_51 N Q v0 x1 x2 x3 x53 (4 : Int32) σ)))) ∧ (x53 = (1 : Int32) → (B_Mo_look_51 N Q v0 x1 x2 x3 x53 (6 : Int32) σ)))))
set_option maxRecDepth 20000 in
theorem JB_Mo_look_65 {p : Program} {l : Launch} {e : Env} {s : State} {m : MethodId} {args : Array Value} {below : List Frame} {meth : Method} {c : Code} {G : rs_G} {Bm : Nat} {S : rs_Shp} {Q : rs_Mem → Prop} (C : rs_C "RouteSpeakerModel" prog_12_method_27_code 6 none G p s m meth c args) (v0 : Nat) (x1 : Int32) (σ : rs_Mem) (H : Heap) (locs : List Loc) (ls : Array Slot) (h_v0 : rs_Ok S 11 v0) (hH : rs_H G Bm S σ H) (hT : rs_T S σ) (hS : va_S (rs_A Bm) s.heap H locs) (hl : lv_has ls 6 [(0, .ref (Bm + v0)), (1, .int x1)]) (hF : B_Mo_look_65 S.2.2 Q v0 x1 σ) :
    W p l e { frames := 4, cells := 0, slots := 0, locals := 99 } s m args below meth c H locs 0 0 (MQ below (rs_Qv G Bm S Q) args s 0 0 (rs_A Bm)) (F0 m 65 ls []) := by
  have hx := C.1
  have hb := C.2.1
  unfold B_Mo_look_65 at hF
  refine lv_aload_n hx hb d_Mo_look_65 rfl (lv_at hl 0 rfl) ?_
  refine lv_iload_n hx hb d_Mo_look_66 rfl (lv_at hl 1 rfl) ?_
  refine lv_iconst hx hb d_Mo_look_67 ki_1 ?_
  refine lv_iconst hx hb d_Mo_look_68 ki_3 ?_
  refine rs_cv (rs_runV C hH hT hl (J_Mo_end l h_v0 hF) rc_Mo_end tw_1171 tw_1173 ts_58 h_v0 ⟨rfl, by decide, by decide⟩ rfl ⟨⟨rfl, rfl⟩, by decide, by decide, by decide⟩ (Nat.le_of_ble_eq_true rfl) rfl d_Mo_look_69) hS (fun σ51 H locs hH hT hS hF => ?_)
  refine lv_goto hx hb d_Mo_look_72 (tgt := 189) rfl ?_
  exact rs_vret C hH hT hS hF d_Mo_look_189
set_option maxRecDepth 20000 in
theorem JB_Mo_look_51 {p : Program} {l : Launch} {e : Env} {s : State} {m : MethodId} {args : Array Value} {below : List Frame} {meth : Method} {c : Code} {G : rs_G} {Bm : Nat} {S : rs_Shp} {Q : rs_Mem → Prop} (C : rs_C "RouteSpeakerModel" prog_12_method_27_code 6 none G p s m meth c args) (v0 : Nat) (x1 : Int32) (x2 : Int32) (x3 : Int32) (x4 : Int32) (y0 : Int32) (σ : rs_Mem) (H : Heap) (locs : List Loc) (ls : Array Slot) (h_v0 : rs_Ok S 11 v0) (hH : rs_H G Bm S σ H) (hT : rs_T S σ) (hS : va_S (rs_A Bm) s.heap H locs) (hl : lv_has ls 6 [(0, .ref (Bm + v0)), (1, .int x1), (2, .int x2), (3, .int x3), (4, .int x4)]) (hF : B_Mo_look_51 S.2.2 Q v0 x1 x2 x3 x4 y0 σ) :
    W p l e { frames := 4, cells := 0, slots := 0, locals := 99 } s m args below meth c H locs 0 0 (MQ below (rs_Qv G Bm S Q) args s 0 0 (rs_A Bm)) (F0 m 51 ls [.int y0]) := by
  have hx := C.1
  have hb := C.2.1
  unfold B_Mo_look_51 at hF
  refine lv_istore hx hb d_Mo_look_51 hl (by decide) (lv' := [(5, .int y0), (0, .ref (Bm + v0)), (1, .int x1), (2, .int x2), (3, .int x3), (4, .int x4)]) rfl (fun ls hl => ?_)
  refine lv_iload hx hb d_Mo_look_53 (lv_at hl 5 rfl) ?_
  refine lv_iconst hx hb d_Mo_look_55 ki_1 ?_
  refine lv_icmp_lt hx hb d_Mo_look_56 (tgt := 65) rfl (fun hc => ?_) (fun hc => ?_)
  · replace hF := hF.1 hc
    exact JB_Mo_look_65 C v0 x1 σ _ _ _ h_v0 hH hT hS (lv_sub hl [1, 2] rfl) hF
  · replace hF := hF.2 hc
    refine lv_iload hx hb d_Mo_look_59 (lv_at hl 5 rfl) ?_
    refine lv_iconst hx hb d_Mo_look_61 ki_4 ?_
    refine lv_icmp_le hx hb d_Mo_look_62 (tgt := 75) rfl (fun hc => ?_) (fun hc => ?_)
    · replace hF := hF.1 hc
      refine lv_iload_n hx hb d_Mo_look_75 rfl (lv_at hl 3 rfl) ?_
      refine lv_iload hx hb d_Mo_look_76 (lv_at hl 0 rfl) ?_
      refine lv_icmp_eq hx hb d_Mo_look_78 (tgt := 91) rfl (fun hc => ?_) (fun hc => ?_)
      · replace hF := hF.1 hc
        refine lv_iload hx hb d_Mo_look_91 (lv_at hl 5 rfl) ?_
        refine lv_iconst hx hb d_Mo_look_93 ki_3 ?_
        refine lv_icmp_ne hx hb d_Mo_look_94 (tgt := 105) rfl (fun hc => ?_) (fun hc => ?_)
        · replace hF := hF.1 hc
          refine lv_aload_n hx hb d_Mo_look_105 rfl (lv_at hl 1 rfl) ?_
          refine rs_getR C hH hT h_v0 fk_11_3 tw_902 d_Mo_look_106 (fun h51 => ?_)
          refine lv_iload_n hx hb d_Mo_look_109 rfl (lv_at hl 2 rfl) ?_
          obtain ⟨g52, hF⟩ := hF
          refine rs_iald C hH h51 g52 d_Mo_look_110 ?_
          refine lv_iconst hx hb d_Mo_look_111 ki_1 ?_
          refine lv_icmp_ne hx hb d_Mo_look_112 (tgt := 126) rfl (fun hc => ?_) (fun hc => ?_)
          · replace hF := hF.1 hc
            refine lv_aload_n hx hb d_Mo_look_126 rfl (lv_at hl 1 rfl) ?_
            refine rs_getR C hH hT h_v0 fk_11_3 tw_902 d_Mo_look_127 (fun h53 => ?_)
            refine lv_iload_n hx hb d_Mo_look_130 rfl (lv_at hl 2 rfl) ?_
            obtain ⟨g54, hF⟩ := hF
            refine rs_iald C hH h53 g54 d_Mo_look_131 ?_
            refine lv_iconst hx hb d_Mo_look_132 ki_2 ?_
            refine lv_icmp_ne hx hb d_Mo_look_133 (tgt := 146) rfl (fun hc => ?_) (fun hc => ?_)
            · replace hF := hF.1 hc
              refine lv_iload hx hb d_Mo_look_146 (lv_at hl 5 rfl) ?_
              refine lv_iconst hx hb d_Mo_look_148 ki_1 ?_
              refine lv_icmp_ne hx hb d_Mo_look_149 (tgt := 162) rfl (fun hc => ?_) (fun hc => ?_)
              · replace hF := hF.1 hc
                refine lv_aload_n hx hb d_Mo_look_162 rfl (lv_at hl 1 rfl) ?_
                refine rs_getR C hH hT h_v0 fk_11_4 tw_903 d_Mo_look_163 (fun h55 => ?_)
                refine lv_iload_n hx hb d_Mo_look_166 rfl (lv_at hl 2 rfl) ?_
                refine lv_aload_n hx hb d_Mo_look_167 rfl (lv_at hl 1 rfl) ?_
                refine rs_getR C hH hT h_v0 fk_11_6 tw_905 d_Mo_look_168 (fun h56 => ?_)
                refine lv_iload_n hx hb d_Mo_look_171 rfl (lv_at hl 2 rfl) ?_
                obtain ⟨g57, hF⟩ := hF
                refine rs_iald C hH h56 g57 d_Mo_look_172 ?_
                obtain ⟨g58, hF⟩ := hF
                refine rs_iast C hH hT hS h55 g58 d_Mo_look_173 (fun σ59 H locs eσ59 hH hT hS => ?_)
                replace hF := hF σ59 eσ59
                refine lv_iload hx hb d_Mo_look_174 (lv_at hl 5 rfl) ?_
                refine lv_iconst hx hb d_Mo_look_176 ki_2 ?_
                refine lv_icmp_ne hx hb d_Mo_look_177 (tgt := 189) rfl (fun hc => ?_) (fun hc => ?_)
                · replace hF := hF.1 hc
                  exact rs_vret C hH hT hS hF d_Mo_look_189
                · replace hF := hF.2 hc
                  refine lv_aload_n hx hb d_Mo_look_180 rfl (lv_at hl 1 rfl) ?_
                  refine lv_iload_n hx hb d_Mo_look_181 rfl (lv_at hl 2 rfl) ?_
                  refine lv_iload_n hx hb d_Mo_look_182 rfl (lv_at hl 4 rfl) ?_
                  refine lv_iload_n hx hb d_Mo_look_183 rfl (lv_at hl 4 rfl) ?_
                  refine lv_iload_n hx hb d_Mo_look_184 rfl (lv_at hl 3 rfl) ?_
                  refine lv_iadd hx hb d_Mo_look_185 ?_
                  refine rs_cv (rs_runV C hH hT hl (J_Mo_update l h_v0 hF) rc_Mo_update tw_1200 tw_1202 ts_64 h_v0 ⟨rfl, by decide, by decide⟩ rfl ⟨⟨rfl, rfl⟩, by decide, by decide, by decide⟩ (Nat.le_of_ble_eq_true rfl) rfl d_Mo_look_186) hS (fun σ60 H locs hH hT hS hF => ?_)
                  exact rs_vret C hH hT hS hF d_Mo_look_189
              · replace hF := hF.2 hc
                refine lv_aload_n hx hb d_Mo_look_152 rfl (lv_at hl 1 rfl) ?_
                refine lv_iload_n hx hb d_Mo_look_153 rfl (lv_at hl 2 rfl) ?_
                refine lv_iconst hx hb d_Mo_look_154 ki_5 ?_
                refine lv_iconst hx hb d_Mo_look_155 ki_3 ?_
                refine rs_cv (rs_runV C hH hT hl (J_Mo_end l h_v0 hF) rc_Mo_end tw_1171 tw_1173 ts_58 h_v0 ⟨rfl, by decide, by decide⟩ rfl ⟨⟨rfl, rfl⟩, by decide, by decide, by decide⟩ (Nat.le_of_ble_eq_true rfl) rfl d_Mo_look_156) hS (fun σ55 H locs hH hT hS hF => ?_)
                refine lv_goto hx hb d_Mo_look_159 (tgt := 189) rfl ?_
                exact rs_vret C hH hT hS hF d_Mo_look_189
            · replace hF := hF.2 hc
              refine lv_aload_n hx hb d_Mo_look_136 rfl (lv_at hl 1 rfl) ?_
              refine lv_iload_n hx hb d_Mo_look_137 rfl (lv_at hl 2 rfl) ?_
              refine lv_iload hx hb d_Mo_look_138 (lv_at hl 5 rfl) ?_
              refine rs_cv (rs_runV C hH hT hl (J_Mo_agreed l h_v0 hF) rc_Mo_agreed tw_1196 tw_1198 ts_63 h_v0 ⟨rfl, by decide, by decide⟩ rfl ⟨⟨rfl, rfl⟩, by decide, by decide, by decide⟩ (Nat.le_of_ble_eq_true rfl) rfl d_Mo_look_140) hS (fun σ55 H locs hH hT hS hF => ?_)
              refine lv_goto hx hb d_Mo_look_143 (tgt := 189) rfl ?_
              exact rs_vret C hH hT hS hF d_Mo_look_189
          · replace hF := hF.2 hc
            refine lv_aload_n hx hb d_Mo_look_115 rfl (lv_at hl 1 rfl) ?_
            refine lv_iload_n hx hb d_Mo_look_116 rfl (lv_at hl 2 rfl) ?_
            refine lv_iload hx hb d_Mo_look_117 (lv_at hl 5 rfl) ?_
            refine lv_iload_n hx hb d_Mo_look_119 rfl (lv_at hl 4 rfl) ?_
            refine rs_cv (rs_runV C hH hT hl (J_Mo_opened l h_v0 hF) rc_Mo_opened tw_1188 tw_1190 ts_61 h_v0 ⟨rfl, by decide, by decide⟩ rfl ⟨⟨rfl, rfl⟩, by decide, by decide, by decide⟩ (Nat.le_of_ble_eq_true rfl) rfl d_Mo_look_120) hS (fun σ53 H locs hH hT hS hF => ?_)
            refine lv_goto hx hb d_Mo_look_123 (tgt := 189) rfl ?_
            exact rs_vret C hH hT hS hF d_Mo_look_189
        · replace hF := hF.2 hc
          refine lv_aload_n hx hb d_Mo_look_97 rfl (lv_at hl 1 rfl) ?_
          refine lv_iload_n hx hb d_Mo_look_98 rfl (lv_at hl 2 rfl) ?_
          refine rs_cv (rs_runV C hH hT hl (J_Mo_close l h_v0 hF) rc_Mo_close tw_1128 tw_1130 ts_55 h_v0 ⟨rfl, by decide, by decide⟩ rfl ⟨⟨rfl, rfl⟩, by decide, by decide, by decide⟩ (Nat.le_of_ble_eq_true rfl) rfl d_Mo_look_99) hS (fun σ51 H locs hH hT hS hF => ?_)
          refine lv_goto hx hb d_Mo_look_102 (tgt := 189) rfl ?_
          exact rs_vret C hH hT hS hF d_Mo_look_189
      · replace hF := hF.2 hc
        refine lv_aload_n hx hb d_Mo_look_81 rfl (lv_at hl 1 rfl) ?_
        refine lv_iload_n hx hb d_Mo_look_82 rfl (lv_at hl 2 rfl) ?_
        refine lv_iconst hx hb d_Mo_look_83 ki_1 ?_
        refine lv_iconst hx hb d_Mo_look_84 ki_2 ?_
        refine rs_cv (rs_runV C hH hT hl (J_Mo_end l h_v0 hF) rc_Mo_end tw_1171 tw_1173 ts_58 h_v0 ⟨rfl, by decide, by decide⟩ rfl ⟨⟨rfl, rfl⟩, by decide, by decide, by decide⟩ (Nat.le_of_ble_eq_true rfl) rfl d_Mo_look_85) hS (fun σ51 H locs hH hT hS hF => ?_)
        refine lv_goto hx hb d_Mo_look_88 (tgt := 189) rfl ?_
        exact rs_vret C hH hT hS hF d_Mo_look_189
    · replace hF := hF.2 hc
      exact JB_Mo_look_65 C v0 x1 σ _ _ _ h_v0 hH hT hS (lv_sub hl [1, 2] rfl) hF
abbrev y_Mo_look : MethodName := ({ cls := "RouteSpeakerModel", name := "look", desc := "(III)V" } : Jvm.MethodName)
theorem rc_Mo_look : rs_Cal y_Mo_look prog_12_method_27_code 6 none 3 := ⟨tw_1187, tw_11, by decide, by decide, by decide +kernel⟩
set_option maxRecDepth 20000 in
theorem J_Mo_look (l : Launch) {G : rs_G} {Bm : Nat} {S : rs_Shp} {v0 : Nat} {x1 : Int32} {x2 : Int32} {x3 : Int32} {σ : rs_Mem} {Q : rs_Mem → Prop} (h_v0 : rs_Ok S 11 v0) (hF : F_Mo_look S.2.2 v0 x1 x2 x3 σ Q) :
    Met l y_Mo_look (rs_ws y_Mo_look prog_12_method_27_code 6 none) { frames := 4, cells := 0, slots := 0, locals := 99 } (rs_P G Bm S σ [.ref (Bm + v0), .int x1, .int x2, .int x3]) (rs_Qv G Bm S Q) 0 0 (rs_A Bm) := by
  refine rs_met (own := "RouteSpeakerModel") (by decide) rfl (Nat.le_of_ble_eq_true rfl) (fun p e s m below meth c ls C hl hH hT hS => ?_)
  replace hl : lv_has ls 6 [(0, .ref (Bm + v0)), (1, .int x1), (2, .int x2), (3, .int x3)] := hl
  have hx := C.1
  have hb := C.2.1
  unfold F_Mo_look at hF
  refine lv_aload_n hx hb d_Mo_look_0 rfl (lv_at hl 0 rfl) ?_
  refine rs_getR C hH hT h_v0 fk_11_15 tw_914 d_Mo_look_1 (fun h51 => ?_)
  refine lv_iload_n hx hb d_Mo_look_4 rfl (lv_at hl 3 rfl) ?_
  refine lv_iconst hx hb d_Mo_look_5 ki_1 ?_
  refine lv_iadd hx hb d_Mo_look_6 ?_
  obtain ⟨g52, hF⟩ := hF
  refine rs_iald C hH h51 g52 d_Mo_look_7 ?_
  refine lv_topi (fun x53 ex53 => ?_)
  replace hF := hF x53 ex53
  refine lv_istore hx hb d_Mo_look_8 hl (by decide) (lv' := [(4, .int x53), (0, .ref (Bm + v0)), (1, .int x1), (2, .int x2), (3, .int x3)]) rfl (fun ls hl => ?_)
  refine lv_iload hx hb d_Mo_look_10 (lv_at hl 0 rfl) ?_
  refine lv_iconst hx hb d_Mo_look_12 ki_1 ?_
  refine lv_icmp_ne hx hb d_Mo_look_13 (tgt := 21) rfl (fun hc => ?_) (fun hc => ?_)
  · replace hF := hF.1 hc
    refine lv_iload hx hb d_Mo_look_21 (lv_at hl 0 rfl) ?_
    refine lv_iconst hx hb d_Mo_look_23 ki_3 ?_
    refine lv_icmp_ne hx hb d_Mo_look_24 (tgt := 31) rfl (fun hc => ?_) (fun hc => ?_)
    · replace hF := hF.1 hc
      refine lv_iload hx hb d_Mo_look_31 (lv_at hl 0 rfl) ?_
      refine lv_iconst hx hb d_Mo_look_33 ki_4 ?_
      refine lv_icmp_ne hx hb d_Mo_look_34 (tgt := 41) rfl (fun hc => ?_) (fun hc => ?_)
      · replace hF := hF.1 hc
        refine lv_iload_n hx hb d_Mo_look_41 rfl (lv_at hl 3 rfl) ?_
        refine lv_iconst hx hb d_Mo_look_42 ki_4 ?_
        refine lv_icmp_ge hx hb d_Mo_look_43 (tgt := 50) rfl (fun hc => ?_) (fun hc => ?_)
        · replace hF := hF.1 hc
          refine lv_iload_n hx hb d_Mo_look_50 rfl (lv_at hl 3 rfl) ?_
          exact JB_Mo_look_51 C v0 x1 x2 x3 x53 x2 σ _ _ _ h_v0 hH hT hS (lv_sub hl [1, 2, 3, 4, 0] rfl) hF
        · replace hF := hF.2 hc
          refine lv_iconst hx hb d_Mo_look_46 ki_4 ?_
          refine lv_goto hx hb d_Mo_look_47 (tgt := 51) rfl ?_
          exact JB_Mo_look_51 C v0 x1 x2 x3 x53 (4 : Int32) σ _ _ _ h_v0 hH hT hS (lv_sub hl [1, 2, 3, 4, 0] rfl) hF
      · replace hF := hF.2 hc
        refine lv_iconst hx hb d_Mo_look_37 ki_2 ?_
        refine lv_goto hx hb d_Mo_look_38 (tgt := 51) rfl ?_
        exact JB_Mo_look_51 C v0 x1 x2 x3 x53 (2 : Int32) σ _ _ _ h_v0 hH hT hS (lv_sub hl [1, 2, 3, 4, 0] rfl) hF
    · replace hF := hF.2 hc
      refine lv_iconst hx hb d_Mo_look_27 ki_4 ?_
      refine lv_goto hx hb d_Mo_look_28 (tgt := 51) rfl ?_
      exact JB_Mo_look_51 C v0 x1 x2 x3 x53 (4 : Int32) σ _ _ _ h_v0 hH hT hS (lv_sub hl [1, 2, 3, 4, 0] rfl) hF
  · replace hF := hF.2 hc
    refine lv_bipush hx hb d_Mo_look_16 kb_6 ?_
    refine lv_goto hx hb d_Mo_look_18 (tgt := 51) rfl ?_
    exact JB_Mo_look_51 C v0 x1 x2 x3 x53 (6 : Int32) σ _ _ _ h_v0 hH hT hS (lv_sub hl [1, 2, 3, 4, 0] rfl) hF
/-! RouteSpeakerModel.come(II)V -/
theorem d_Mo_come_0 : decode prog_12_method_26_code 0 = .ok (.aload_n 0, 1) := by decide +kernel
theorem d_Mo_come_1 : decode prog_12_method_26_code 1 = .ok (.getfield 16, 3) := by decide +kernel
theorem d_Mo_come_4 : decode prog_12_method_26_code 4 = .ok (.iload_n 1, 1) := by decide +kernel
theorem d_Mo_come_5 : decode prog_12_method_26_code 5 = .ok (.iaload, 1) := by decide +kernel
theorem d_Mo_come_6 : decode prog_12_method_26_code 6 = .ok (.ifCond .ne (4), 3) := by decide +kernel
theorem d_Mo_come_9 : decode prog_12_method_26_code 9 = .ok (.return_, 1) := by decide +kernel
theorem d_Mo_come_10 : decode prog_12_method_26_code 10 = .ok (.aload_n 0, 1) := by decide +kernel
theorem d_Mo_come_11 : decode prog_12_method_26_code 11 = .ok (.getfield 52, 3) := by decide +kernel
theorem d_Mo_come_14 : decode prog_12_method_26_code 14 = .ok (.bipush (60), 2) := by decide +kernel
theorem d_Mo_come_16 : decode prog_12_method_26_code 16 = .ok (.iload_n 1, 1) := by decide +kernel
theorem d_Mo_come_17 : decode prog_12_method_26_code 17 = .ok (.imul, 1) := by decide +kernel
theorem d_Mo_come_18 : decode prog_12_method_26_code 18 = .ok (.aload_n 0, 1) := by decide +kernel
theorem d_Mo_come_19 : decode prog_12_method_26_code 19 = .ok (.getfield 55, 3) := by decide +kernel
theorem d_Mo_come_22 : decode prog_12_method_26_code 22 = .ok (.iload_n 1, 1) := by decide +kernel
theorem d_Mo_come_23 : decode prog_12_method_26_code 23 = .ok (.iaload, 1) := by decide +kernel
theorem d_Mo_come_24 : decode prog_12_method_26_code 24 = .ok (.iadd, 1) := by decide +kernel
theorem d_Mo_come_25 : decode prog_12_method_26_code 25 = .ok (.iload_n 2, 1) := by decide +kernel
theorem d_Mo_come_26 : decode prog_12_method_26_code 26 = .ok (.iastore, 1) := by decide +kernel
theorem d_Mo_come_27 : decode prog_12_method_26_code 27 = .ok (.aload_n 0, 1) := by decide +kernel
theorem d_Mo_come_28 : decode prog_12_method_26_code 28 = .ok (.getfield 55, 3) := by decide +kernel
theorem d_Mo_come_31 : decode prog_12_method_26_code 31 = .ok (.iload_n 1, 1) := by decide +kernel
theorem d_Mo_come_32 : decode prog_12_method_26_code 32 = .ok (.dup2, 1) := by decide +kernel
theorem d_Mo_come_33 : decode prog_12_method_26_code 33 = .ok (.iaload, 1) := by decide +kernel
theorem d_Mo_come_34 : decode prog_12_method_26_code 34 = .ok (.iconst 1, 1) := by decide +kernel
theorem d_Mo_come_35 : decode prog_12_method_26_code 35 = .ok (.iadd, 1) := by decide +kernel
theorem d_Mo_come_36 : decode prog_12_method_26_code 36 = .ok (.iastore, 1) := by decide +kernel
theorem d_Mo_come_37 : decode prog_12_method_26_code 37 = .ok (.aload_n 0, 1) := by decide +kernel
theorem d_Mo_come_38 : decode prog_12_method_26_code 38 = .ok (.getfield 55, 3) := by decide +kernel
theorem d_Mo_come_41 : decode prog_12_method_26_code 41 = .ok (.iload_n 1, 1) := by decide +kernel
theorem d_Mo_come_42 : decode prog_12_method_26_code 42 = .ok (.iaload, 1) := by decide +kernel
theorem d_Mo_come_43 : decode prog_12_method_26_code 43 = .ok (.iconst 1, 1) := by decide +kernel
theorem d_Mo_come_44 : decode prog_12_method_26_code 44 = .ok (.if_icmp .ne (24), 3) := by decide +kernel
theorem d_Mo_come_47 : decode prog_12_method_26_code 47 = .ok (.iload_n 2, 1) := by decide +kernel
theorem d_Mo_come_48 : decode prog_12_method_26_code 48 = .ok (.iconst 2, 1) := by decide +kernel
theorem d_Mo_come_49 : decode prog_12_method_26_code 49 = .ok (.if_icmp .lt (9), 3) := by decide +kernel
theorem d_Mo_come_52 : decode prog_12_method_26_code 52 = .ok (.iload_n 2, 1) := by decide +kernel
theorem d_Mo_come_53 : decode prog_12_method_26_code 53 = .ok (.bipush (60), 2) := by decide +kernel
theorem d_Mo_come_55 : decode prog_12_method_26_code 55 = .ok (.if_icmp .le (60), 3) := by decide +kernel
theorem d_Mo_come_58 : decode prog_12_method_26_code 58 = .ok (.aload_n 0, 1) := by decide +kernel
theorem d_Mo_come_59 : decode prog_12_method_26_code 59 = .ok (.iload_n 1, 1) := by decide +kernel
theorem d_Mo_come_60 : decode prog_12_method_26_code 60 = .ok (.iconst 1, 1) := by decide +kernel
theorem d_Mo_come_61 : decode prog_12_method_26_code 61 = .ok (.iconst 2, 1) := by decide +kernel
theorem d_Mo_come_62 : decode prog_12_method_26_code 62 = .ok (.invokevirtual 174, 3) := by decide +kernel
theorem d_Mo_come_65 : decode prog_12_method_26_code 65 = .ok (.goto (50), 3) := by decide +kernel
theorem d_Mo_come_68 : decode prog_12_method_26_code 68 = .ok (.aload_n 0, 1) := by decide +kernel
theorem d_Mo_come_69 : decode prog_12_method_26_code 69 = .ok (.getfield 55, 3) := by decide +kernel
theorem d_Mo_come_72 : decode prog_12_method_26_code 72 = .ok (.iload_n 1, 1) := by decide +kernel
theorem d_Mo_come_73 : decode prog_12_method_26_code 73 = .ok (.iaload, 1) := by decide +kernel
theorem d_Mo_come_74 : decode prog_12_method_26_code 74 = .ok (.aload_n 0, 1) := by decide +kernel
theorem d_Mo_come_75 : decode prog_12_method_26_code 75 = .ok (.getfield 52, 3) := by decide +kernel
theorem d_Mo_come_78 : decode prog_12_method_26_code 78 = .ok (.bipush (60), 2) := by decide +kernel
theorem d_Mo_come_80 : decode prog_12_method_26_code 80 = .ok (.iload_n 1, 1) := by decide +kernel
theorem d_Mo_come_81 : decode prog_12_method_26_code 81 = .ok (.imul, 1) := by decide +kernel
theorem d_Mo_come_82 : decode prog_12_method_26_code 82 = .ok (.iaload, 1) := by decide +kernel
theorem d_Mo_come_83 : decode prog_12_method_26_code 83 = .ok (.if_icmp .ne (32), 3) := by decide +kernel
theorem d_Mo_come_86 : decode prog_12_method_26_code 86 = .ok (.aload_n 0, 1) := by decide +kernel
theorem d_Mo_come_87 : decode prog_12_method_26_code 87 = .ok (.getfield 55, 3) := by decide +kernel
theorem d_Mo_come_90 : decode prog_12_method_26_code 90 = .ok (.iload_n 1, 1) := by decide +kernel
theorem d_Mo_come_91 : decode prog_12_method_26_code 91 = .ok (.iconst 0, 1) := by decide +kernel
theorem d_Mo_come_92 : decode prog_12_method_26_code 92 = .ok (.iastore, 1) := by decide +kernel
theorem d_Mo_come_93 : decode prog_12_method_26_code 93 = .ok (.aload_n 0, 1) := by decide +kernel
theorem d_Mo_come_94 : decode prog_12_method_26_code 94 = .ok (.iload_n 1, 1) := by decide +kernel
theorem d_Mo_come_95 : decode prog_12_method_26_code 95 = .ok (.aload_n 0, 1) := by decide +kernel
theorem d_Mo_come_96 : decode prog_12_method_26_code 96 = .ok (.getfield 52, 3) := by decide +kernel
theorem d_Mo_come_99 : decode prog_12_method_26_code 99 = .ok (.bipush (60), 2) := by decide +kernel
theorem d_Mo_come_101 : decode prog_12_method_26_code 101 = .ok (.iload_n 1, 1) := by decide +kernel
theorem d_Mo_come_102 : decode prog_12_method_26_code 102 = .ok (.imul, 1) := by decide +kernel
theorem d_Mo_come_103 : decode prog_12_method_26_code 103 = .ok (.iaload, 1) := by decide +kernel
theorem d_Mo_come_104 : decode prog_12_method_26_code 104 = .ok (.bipush (60), 2) := by decide +kernel
theorem d_Mo_come_106 : decode prog_12_method_26_code 106 = .ok (.iload_n 1, 1) := by decide +kernel
theorem d_Mo_come_107 : decode prog_12_method_26_code 107 = .ok (.imul, 1) := by decide +kernel
theorem d_Mo_come_108 : decode prog_12_method_26_code 108 = .ok (.invokevirtual 184, 3) := by decide +kernel
theorem d_Mo_come_111 : decode prog_12_method_26_code 111 = .ok (.aload_n 0, 1) := by decide +kernel
theorem d_Mo_come_112 : decode prog_12_method_26_code 112 = .ok (.invokevirtual 164, 3) := by decide +kernel
theorem d_Mo_come_115 : decode prog_12_method_26_code 115 = .ok (.return_, 1) := by decide +kernel
def B_Mo_come_58 (N : Nat → Nat) (Q : rs_Mem → Prop) (v0 : Nat) (x1 : Int32) (σ : rs_Mem) : Prop :=
  (F_Mo_end N v0 x1 (1 : Int32) (2 : Int32) σ (fun σ51 => (Q σ51)))
def F_Mo_come (N : Nat → Nat) (v0 : Nat) (x1 : Int32) (x2 : Int32) (σ : rs_Mem) (Q : rs_Mem → Prop) : Prop :=
  (vp_in x1 (N (rs_R σ v0 3)) ∧ ((¬ ((rs_I σ (rs_R σ v0 3) x1.toNatClampNeg) = 0) → (vp_in x1 (N (rs_R σ v0 16)) ∧ (vp_in (((60 : Int32) * x1) + (rs_I σ (rs_R σ v0 16) x1.toNatClampNeg)) (N (rs_R σ v0 15)) ∧ ∀ σ57 : rs_Mem, σ57 = rs_sI σ (rs_R σ v0 15) (((60 : Int32) * x1) + (rs_I σ (rs_R σ v0 16) x1.toNatClampNeg)).toNatClampNeg x2 → (vp_in x1 (N (rs_R σ57 v0 16)) ∧ (vp_in x1 (N (rs_R σ57 v0 16)) ∧ ∀ σ61 : rs_Mem, σ61 = rs_sI σ57 (rs_R σ57 v0 16) x1.toNatClampNeg ((rs_I σ57 (rs_R σ57 v0 16) x1.toNatClampNeg) + (1 : Int32)) → (vp_in x1 (N (rs_R σ61 v0 16)) ∧ ((¬ ((rs_I σ61 (rs_R σ61 v0 16) x1.toNatClampNeg) = (1 : Int32)) → (vp_in x1 (N (rs_R σ61 v0 16)) ∧ (vp_in ((60 : Int32) * x1) (N (rs_R σ61 v0 15)) ∧ ((¬ ((rs_I σ61 (rs_R σ61 v0 16) x1.toNatClampNeg) = (rs_I σ61 (rs_R σ61 v0 15) ((60 : Int32) * x1).toNatClampNeg)) → (Q σ61)) ∧ ((rs_I σ61 (rs_R σ61 v0 16) x1.toNatClampNeg) = (rs_I σ61 (rs_R σ61 v0 15) ((60 : Int32) * x1).toNatClampNeg) → (vp_in x1 (N (rs_R σ61 v0 16)) ∧ ∀ σ70 : rs_Mem, σ70 = rs_sI σ61 (rs_R σ61 v0 16) x1.toNatClampNeg (0 : Int32) → (vp_in ((60 : Int32) * x1) (N (rs_R σ70 v0 15)) ∧ (F_Mo_look N v0 x1 (rs_I σ70 (rs_R σ70 v0 15) ((60 : Int32) * x1).toNatClampNeg) ((60 : Int32) * x1) σ70 (fun σ73 => (F_Mo_tell N v0 σ73 (fun σ74 => (Q σ74)))))))))))) ∧ ((rs_I σ61 (rs_R σ61 v0 16) x1.toNatClampNeg) = (1 : Int32) → ((x2 < (2 : Int32) → (B_Mo_come_58 N Q v0 x1 σ61)) ∧ (¬ (x2 < (2 : Int32)) → ((x2 ≤ (60 : Int32) → (Q σ61)) ∧ (¬ (x2 ≤ (60 : Int32)) → (B_Mo_come_58 N Q v0 x1 σ61))))))))))))) ∧ ((rs_I σ (rs_R σ v0 3) x1.toNatClampNeg) = 0 → (Q σ))))
set_option maxRecDepth 20000 in
theorem JB_Mo_come_58 {p : Program} {l : Launch} {e : Env} {s : State} {m : MethodId} {args : Array Value} {below : List Frame} {meth : Method} {c : Code} {G : rs_G} {Bm : Nat} {S : rs_Shp} {Q : rs_Mem → Prop} (C : rs_C "RouteSpeakerModel" prog_12_method_26_code 3 none G p s m meth c args) (v0 : Nat) (x1 : Int32) (σ : rs_Mem) (H : Heap) (locs : List Loc) (ls : Array Slot) (h_v0 : rs_Ok S 11 v0) (hH : rs_H G Bm S σ H) (hT : rs_T S σ) (hS : va_S (rs_A Bm) s.heap H locs) (hl : lv_has ls 3 [(0, .ref (Bm + v0)), (1, .int x1)]) (hF : B_Mo_come_58 S.2.2 Q v0 x1 σ) :
    W p l e { frames := 9, cells := 0, slots := 0, locals := 208 } s m args below meth c H locs 0 0 (MQ below (rs_Qv G Bm S Q) args s 0 0 (rs_A Bm)) (F0 m 58 ls []) := by
  have hx := C.1
  have hb := C.2.1
  unfold B_Mo_come_58 at hF
  refine lv_aload_n hx hb d_Mo_come_58 rfl (lv_at hl 0 rfl) ?_
  refine lv_iload_n hx hb d_Mo_come_59 rfl (lv_at hl 1 rfl) ?_
  refine lv_iconst hx hb d_Mo_come_60 ki_1 ?_
  refine lv_iconst hx hb d_Mo_come_61 ki_2 ?_
  refine rs_cv (rs_runV C hH hT hl (J_Mo_end l h_v0 hF) rc_Mo_end tw_1171 tw_1173 ts_58 h_v0 ⟨rfl, by decide, by decide⟩ rfl ⟨⟨rfl, rfl⟩, by decide, by decide, by decide⟩ (Nat.le_of_ble_eq_true rfl) rfl d_Mo_come_62) hS (fun σ51 H locs hH hT hS hF => ?_)
  refine lv_goto hx hb d_Mo_come_65 (tgt := 115) rfl ?_
  exact rs_vret C hH hT hS hF d_Mo_come_115
abbrev y_Mo_come : MethodName := ({ cls := "RouteSpeakerModel", name := "come", desc := "(II)V" } : Jvm.MethodName)
theorem rc_Mo_come : rs_Cal y_Mo_come prog_12_method_26_code 3 none 2 := ⟨tw_1183, tw_11, by decide, by decide, by decide +kernel⟩
set_option maxRecDepth 20000 in
theorem J_Mo_come (l : Launch) {G : rs_G} {Bm : Nat} {S : rs_Shp} {v0 : Nat} {x1 : Int32} {x2 : Int32} {σ : rs_Mem} {Q : rs_Mem → Prop} (h_v0 : rs_Ok S 11 v0) (hF : F_Mo_come S.2.2 v0 x1 x2 σ Q) :
    Met l y_Mo_come (rs_ws y_Mo_come prog_12_method_26_code 3 none) { frames := 9, cells := 0, slots := 0, locals := 208 } (rs_P G Bm S σ [.ref (Bm + v0), .int x1, .int x2]) (rs_Qv G Bm S Q) 0 0 (rs_A Bm) := by
  refine rs_met (own := "RouteSpeakerModel") (by decide) rfl (Nat.le_of_ble_eq_true rfl) (fun p e s m below meth c ls C hl hH hT hS => ?_)
  replace hl : lv_has ls 3 [(0, .ref (Bm + v0)), (1, .int x1), (2, .int x2)] := hl
  have hx := C.1
  have hb := C.2.1
  unfold F_Mo_come at hF
  refine lv_aload_n hx hb d_Mo_come_0 rfl (lv_at hl 0 rfl) ?_
  refine rs_getR C hH hT h_v0 fk_11_3 tw_902 d_Mo_come_1 (fun h51 => ?_)
  refine lv_iload_n hx hb d_Mo_come_4 rfl (lv_at hl 1 rfl) ?_
  obtain ⟨g52, hF⟩ := hF
  refine rs_iald C hH h51 g52 d_Mo_come_5 ?_
  refine lv_if_ne hx hb d_Mo_come_6 (tgt := 10) rfl (fun hc => ?_) (fun hc => ?_)
  · replace hF := hF.1 hc
    refine lv_aload_n hx hb d_Mo_come_10 rfl (lv_at hl 0 rfl) ?_
    refine rs_getR C hH hT h_v0 fk_11_15 tw_914 d_Mo_come_11 (fun h53 => ?_)
    refine lv_bipush hx hb d_Mo_come_14 kb_60 ?_
    refine lv_iload_n hx hb d_Mo_come_16 rfl (lv_at hl 1 rfl) ?_
    refine lv_imul hx hb d_Mo_come_17 ?_
    refine lv_aload_n hx hb d_Mo_come_18 rfl (lv_at hl 0 rfl) ?_
    refine rs_getR C hH hT h_v0 fk_11_16 tw_915 d_Mo_come_19 (fun h54 => ?_)
    refine lv_iload_n hx hb d_Mo_come_22 rfl (lv_at hl 1 rfl) ?_
    obtain ⟨g55, hF⟩ := hF
    refine rs_iald C hH h54 g55 d_Mo_come_23 ?_
    refine lv_iadd hx hb d_Mo_come_24 ?_
    refine lv_iload_n hx hb d_Mo_come_25 rfl (lv_at hl 2 rfl) ?_
    obtain ⟨g56, hF⟩ := hF
    refine rs_iast C hH hT hS h53 g56 d_Mo_come_26 (fun σ57 H locs eσ57 hH hT hS => ?_)
    replace hF := hF σ57 eσ57
    refine lv_aload_n hx hb d_Mo_come_27 rfl (lv_at hl 0 rfl) ?_
    refine rs_getR C hH hT h_v0 fk_11_16 tw_915 d_Mo_come_28 (fun h58 => ?_)
    refine lv_iload_n hx hb d_Mo_come_31 rfl (lv_at hl 1 rfl) ?_
    refine lv_dup2_11 hx hb d_Mo_come_32 rfl rfl ?_
    obtain ⟨g59, hF⟩ := hF
    refine rs_iald C hH h58 g59 d_Mo_come_33 ?_
    refine lv_iconst hx hb d_Mo_come_34 ki_1 ?_
    refine lv_iadd hx hb d_Mo_come_35 ?_
    obtain ⟨g60, hF⟩ := hF
    refine rs_iast C hH hT hS h58 g60 d_Mo_come_36 (fun σ61 H locs eσ61 hH hT hS => ?_)
    replace hF := hF σ61 eσ61
    refine lv_aload_n hx hb d_Mo_come_37 rfl (lv_at hl 0 rfl) ?_
    refine rs_getR C hH hT h_v0 fk_11_16 tw_915 d_Mo_come_38 (fun h62 => ?_)
    refine lv_iload_n hx hb d_Mo_come_41 rfl (lv_at hl 1 rfl) ?_
    obtain ⟨g63, hF⟩ := hF
    refine rs_iald C hH h62 g63 d_Mo_come_42 ?_
    refine lv_iconst hx hb d_Mo_come_43 ki_1 ?_
    refine lv_icmp_ne hx hb d_Mo_come_44 (tgt := 68) rfl (fun hc => ?_) (fun hc => ?_)
    · replace hF := hF.1 hc
      refine lv_aload_n hx hb d_Mo_come_68 rfl (lv_at hl 0 rfl) ?_
      refine rs_getR C hH hT h_v0 fk_11_16 tw_915 d_Mo_come_69 (fun h64 => ?_)
      refine lv_iload_n hx hb d_Mo_come_72 rfl (lv_at hl 1 rfl) ?_
      obtain ⟨g65, hF⟩ := hF
      refine rs_iald C hH h64 g65 d_Mo_come_73 ?_
      refine lv_aload_n hx hb d_Mo_come_74 rfl (lv_at hl 0 rfl) ?_
      refine rs_getR C hH hT h_v0 fk_11_15 tw_914 d_Mo_come_75 (fun h66 => ?_)
      refine lv_bipush hx hb d_Mo_come_78 kb_60 ?_
      refine lv_iload_n hx hb d_Mo_come_80 rfl (lv_at hl 1 rfl) ?_
      refine lv_imul hx hb d_Mo_come_81 ?_
      obtain ⟨g67, hF⟩ := hF
      refine rs_iald C hH h66 g67 d_Mo_come_82 ?_
      refine lv_icmp_ne hx hb d_Mo_come_83 (tgt := 115) rfl (fun hc => ?_) (fun hc => ?_)
      · replace hF := hF.1 hc
        exact rs_vret C hH hT hS hF d_Mo_come_115
      · replace hF := hF.2 hc
        refine lv_aload_n hx hb d_Mo_come_86 rfl (lv_at hl 0 rfl) ?_
        refine rs_getR C hH hT h_v0 fk_11_16 tw_915 d_Mo_come_87 (fun h68 => ?_)
        refine lv_iload_n hx hb d_Mo_come_90 rfl (lv_at hl 1 rfl) ?_
        refine lv_iconst hx hb d_Mo_come_91 ki_0 ?_
        obtain ⟨g69, hF⟩ := hF
        refine rs_iast C hH hT hS h68 g69 d_Mo_come_92 (fun σ70 H locs eσ70 hH hT hS => ?_)
        replace hF := hF σ70 eσ70
        refine lv_aload_n hx hb d_Mo_come_93 rfl (lv_at hl 0 rfl) ?_
        refine lv_iload_n hx hb d_Mo_come_94 rfl (lv_at hl 1 rfl) ?_
        refine lv_aload_n hx hb d_Mo_come_95 rfl (lv_at hl 0 rfl) ?_
        refine rs_getR C hH hT h_v0 fk_11_15 tw_914 d_Mo_come_96 (fun h71 => ?_)
        refine lv_bipush hx hb d_Mo_come_99 kb_60 ?_
        refine lv_iload_n hx hb d_Mo_come_101 rfl (lv_at hl 1 rfl) ?_
        refine lv_imul hx hb d_Mo_come_102 ?_
        obtain ⟨g72, hF⟩ := hF
        refine rs_iald C hH h71 g72 d_Mo_come_103 ?_
        refine lv_bipush hx hb d_Mo_come_104 kb_60 ?_
        refine lv_iload_n hx hb d_Mo_come_106 rfl (lv_at hl 1 rfl) ?_
        refine lv_imul hx hb d_Mo_come_107 ?_
        refine rs_cv (rs_runV C hH hT hl (J_Mo_look l h_v0 hF) rc_Mo_look tw_1184 tw_1186 ts_60 h_v0 ⟨rfl, by decide, by decide⟩ rfl ⟨⟨rfl, rfl⟩, by decide, by decide, by decide⟩ (Nat.le_of_ble_eq_true rfl) rfl d_Mo_come_108) hS (fun σ73 H locs hH hT hS hF => ?_)
        refine lv_aload_n hx hb d_Mo_come_111 rfl (lv_at hl 0 rfl) ?_
        refine rs_cv (rs_runV C hH hT hl (J_Mo_tell l h_v0 hF) rc_Mo_tell tw_1037 tw_1039 ts_34 h_v0 ⟨rfl, by decide, by decide⟩ rfl ⟨⟨rfl, rfl⟩, by decide, by decide, by decide⟩ (Nat.le_of_ble_eq_true rfl) rfl d_Mo_come_112) hS (fun σ74 H locs hH hT hS hF => ?_)
        exact rs_vret C hH hT hS hF d_Mo_come_115
    · replace hF := hF.2 hc
      refine lv_iload_n hx hb d_Mo_come_47 rfl (lv_at hl 2 rfl) ?_
      refine lv_iconst hx hb d_Mo_come_48 ki_2 ?_
      refine lv_icmp_lt hx hb d_Mo_come_49 (tgt := 58) rfl (fun hc => ?_) (fun hc => ?_)
      · replace hF := hF.1 hc
        exact JB_Mo_come_58 C v0 x1 σ61 _ _ _ h_v0 hH hT hS (lv_sub hl [0, 1] rfl) hF
      · replace hF := hF.2 hc
        refine lv_iload_n hx hb d_Mo_come_52 rfl (lv_at hl 2 rfl) ?_
        refine lv_bipush hx hb d_Mo_come_53 kb_60 ?_
        refine lv_icmp_le hx hb d_Mo_come_55 (tgt := 115) rfl (fun hc => ?_) (fun hc => ?_)
        · replace hF := hF.1 hc
          exact rs_vret C hH hT hS hF d_Mo_come_115
        · replace hF := hF.2 hc
          exact JB_Mo_come_58 C v0 x1 σ61 _ _ _ h_v0 hH hT hS (lv_sub hl [0, 1] rfl) hF
  · replace hF := hF.2 hc
    exact rs_vret C hH hT hS hF d_Mo_come_9
/-! RouteSpeakerModel.feed(IJI)Z -/
theorem d_Mo_feed_0 : decode prog_12_method_25_code 0 = .ok (.aload_n 0, 1) := by decide +kernel
theorem d_Mo_feed_1 : decode prog_12_method_25_code 1 = .ok (.iload_n 1, 1) := by decide +kernel
theorem d_Mo_feed_2 : decode prog_12_method_25_code 2 = .ok (.invokestatic 158, 3) := by decide +kernel
theorem d_Mo_feed_5 : decode prog_12_method_25_code 5 = .ok (.ifCond .eq (20), 3) := by decide +kernel
theorem d_Mo_feed_8 : decode prog_12_method_25_code 8 = .ok (.iload 4, 2) := by decide +kernel
theorem d_Mo_feed_10 : decode prog_12_method_25_code 10 = .ok (.iconst 1, 1) := by decide +kernel
theorem d_Mo_feed_11 : decode prog_12_method_25_code 11 = .ok (.if_icmp .lt (14), 3) := by decide +kernel
theorem d_Mo_feed_14 : decode prog_12_method_25_code 14 = .ok (.iload 4, 2) := by decide +kernel
theorem d_Mo_feed_16 : decode prog_12_method_25_code 16 = .ok (.bipush (8), 2) := by decide +kernel
theorem d_Mo_feed_18 : decode prog_12_method_25_code 18 = .ok (.if_icmp .gt (7), 3) := by decide +kernel
theorem d_Mo_feed_21 : decode prog_12_method_25_code 21 = .ok (.iconst 0, 1) := by decide +kernel
theorem d_Mo_feed_22 : decode prog_12_method_25_code 22 = .ok (.goto (4), 3) := by decide +kernel
theorem d_Mo_feed_25 : decode prog_12_method_25_code 25 = .ok (.iconst 1, 1) := by decide +kernel
theorem d_Mo_feed_26 : decode prog_12_method_25_code 26 = .ok (.putfield 126, 3) := by decide +kernel
theorem d_Mo_feed_29 : decode prog_12_method_25_code 29 = .ok (.aload_n 0, 1) := by decide +kernel
theorem d_Mo_feed_30 : decode prog_12_method_25_code 30 = .ok (.getfield 126, 3) := by decide +kernel
theorem d_Mo_feed_33 : decode prog_12_method_25_code 33 = .ok (.ifCond .ne (12), 3) := by decide +kernel
theorem d_Mo_feed_36 : decode prog_12_method_25_code 36 = .ok (.aload_n 0, 1) := by decide +kernel
theorem d_Mo_feed_37 : decode prog_12_method_25_code 37 = .ok (.getfield 16, 3) := by decide +kernel
theorem d_Mo_feed_40 : decode prog_12_method_25_code 40 = .ok (.iload_n 1, 1) := by decide +kernel
theorem d_Mo_feed_41 : decode prog_12_method_25_code 41 = .ok (.iaload, 1) := by decide +kernel
theorem d_Mo_feed_42 : decode prog_12_method_25_code 42 = .ok (.ifCond .ne (5), 3) := by decide +kernel
theorem d_Mo_feed_45 : decode prog_12_method_25_code 45 = .ok (.iconst 0, 1) := by decide +kernel
theorem d_Mo_feed_46 : decode prog_12_method_25_code 46 = .ok (.ireturn, 1) := by decide +kernel
theorem d_Mo_feed_47 : decode prog_12_method_25_code 47 = .ok (.iload 4, 2) := by decide +kernel
theorem d_Mo_feed_49 : decode prog_12_method_25_code 49 = .ok (.iconst 1, 1) := by decide +kernel
theorem d_Mo_feed_50 : decode prog_12_method_25_code 50 = .ok (.isub, 1) := by decide +kernel
theorem d_Mo_feed_51 : decode prog_12_method_25_code 51 = .ok (.istore 5, 2) := by decide +kernel
theorem d_Mo_feed_53 : decode prog_12_method_25_code 53 = .ok (.iload 5, 2) := by decide +kernel
theorem d_Mo_feed_55 : decode prog_12_method_25_code 55 = .ok (.ifCond .lt (26), 3) := by decide +kernel
theorem d_Mo_feed_58 : decode prog_12_method_25_code 58 = .ok (.aload_n 0, 1) := by decide +kernel
theorem d_Mo_feed_59 : decode prog_12_method_25_code 59 = .ok (.iload_n 1, 1) := by decide +kernel
theorem d_Mo_feed_60 : decode prog_12_method_25_code 60 = .ok (.lload_n 2, 1) := by decide +kernel
theorem d_Mo_feed_61 : decode prog_12_method_25_code 61 = .ok (.bipush (8), 2) := by decide +kernel
theorem d_Mo_feed_63 : decode prog_12_method_25_code 63 = .ok (.iload 5, 2) := by decide +kernel
theorem d_Mo_feed_65 : decode prog_12_method_25_code 65 = .ok (.imul, 1) := by decide +kernel
theorem d_Mo_feed_66 : decode prog_12_method_25_code 66 = .ok (.lshr, 1) := by decide +kernel
theorem d_Mo_feed_67 : decode prog_12_method_25_code 67 = .ok (.ldc2_w 178, 3) := by decide +kernel
theorem d_Mo_feed_70 : decode prog_12_method_25_code 70 = .ok (.land, 1) := by decide +kernel
theorem d_Mo_feed_71 : decode prog_12_method_25_code 71 = .ok (.l2i, 1) := by decide +kernel
theorem d_Mo_feed_72 : decode prog_12_method_25_code 72 = .ok (.invokevirtual 180, 3) := by decide +kernel
theorem d_Mo_feed_75 : decode prog_12_method_25_code 75 = .ok (.iinc 5 (-1), 3) := by decide +kernel
theorem d_Mo_feed_78 : decode prog_12_method_25_code 78 = .ok (.goto (-25), 3) := by decide +kernel
theorem d_Mo_feed_81 : decode prog_12_method_25_code 81 = .ok (.aload_n 0, 1) := by decide +kernel
theorem d_Mo_feed_82 : decode prog_12_method_25_code 82 = .ok (.invokevirtual 164, 3) := by decide +kernel
theorem d_Mo_feed_85 : decode prog_12_method_25_code 85 = .ok (.iconst 1, 1) := by decide +kernel
theorem d_Mo_feed_86 : decode prog_12_method_25_code 86 = .ok (.ireturn, 1) := by decide +kernel
def G_Mo_feed_53 (N : Nat → Nat) (Q : Int32 → rs_Mem → Prop) (K53 : Nat → Int32 → Int64 → Int32 → rs_Mem → Prop) (v0 : Nat) (x1 : Int32) (x2 : Int64) (x5 : Int32) (σ : rs_Mem) : Prop :=
  ((x5 < 0 → (F_Mo_tell N v0 σ (fun σ51 => (Q (1 : Int32) σ51)))) ∧ (¬ (x5 < 0) → (F_Mo_come N v0 x1 (((x2 >>> (((8 : Int32) * x5).toInt64 &&& 63)) &&& (255 : Int64)).toInt32) σ (fun σ51 => (∀ x52 : Int32, x52 = x5 + (-1 : Int32) → (K53 v0 x1 x2 x52 σ51))))))
noncomputable def L_Mo_feed_53 (N : Nat → Nat) (Q : Int32 → rs_Mem → Prop) (n : Nat) : Nat → Int32 → Int64 → Int32 → rs_Mem → Prop := Nat.rec (motive := fun _ => Nat → Int32 → Int64 → Int32 → rs_Mem → Prop) (fun _ _ _ _ _ => False) (fun _ K => G_Mo_feed_53 N Q K) n
def B_Mo_feed_26 (N : Nat → Nat) (Q : Int32 → rs_Mem → Prop) (v0 : Nat) (x1 : Int32) (x2 : Int64) (x4 : Int32) (w0 : Nat) (y1 : Int32) (σ : rs_Mem) : Prop :=
  (∀ σ51 : rs_Mem, σ51 = rs_sI σ w0 0 y1 → ((¬ ((rs_I σ51 v0 0) = 0) → (Q (0 : Int32) σ51)) ∧ ((rs_I σ51 v0 0) = 0 → (vp_in x1 (N (rs_R σ51 v0 3)) ∧ ((¬ ((rs_I σ51 (rs_R σ51 v0 3) x1.toNatClampNeg) = 0) → (∀ x54 : Int32, x54 = (x4 - (1 : Int32)) → (∃ n : Nat, L_Mo_feed_53 N Q n v0 x1 x2 x54 σ51))) ∧ ((rs_I σ51 (rs_R σ51 v0 3) x1.toNatClampNeg) = 0 → (Q (0 : Int32) σ51)))))))
def B_Mo_feed_25 (N : Nat → Nat) (Q : Int32 → rs_Mem → Prop) (v0 : Nat) (x1 : Int32) (x2 : Int64) (x4 : Int32) (w0 : Nat) (σ : rs_Mem) : Prop :=
  (B_Mo_feed_26 N Q v0 x1 x2 x4 w0 (1 : Int32) σ)
def F_Mo_feed (N : Nat → Nat) (v0 : Nat) (x1 : Int32) (x2 : Int64) (x4 : Int32) (σ : rs_Mem) (Q : Int32 → rs_Mem → Prop) : Prop :=
  (F_Mo_isPeer N x1 σ (fun x52 σ51 => ((x52 = 0 → (B_Mo_feed_25 N Q v0 x1 x2 x4 v0 σ51)) ∧ (¬ (x52 = 0) → ((x4 < (1 : Int32) → (B_Mo_feed_25 N Q v0 x1 x2 x4 v0 σ51)) ∧ (¬ (x4 < (1 : Int32)) → (((8 : Int32) < x4 → (B_Mo_feed_25 N Q v0 x1 x2 x4 v0 σ51)) ∧ (¬ ((8 : Int32) < x4) → (B_Mo_feed_26 N Q v0 x1 x2 x4 v0 (0 : Int32) σ51)))))))))
set_option maxRecDepth 20000 in
theorem JL_Mo_feed_53 {p : Program} {l : Launch} {e : Env} {s : State} {m : MethodId} {args : Array Value} {below : List Frame} {meth : Method} {c : Code} {G : rs_G} {Bm : Nat} {S : rs_Shp} {Q : Int32 → rs_Mem → Prop} (C : rs_C "RouteSpeakerModel" prog_12_method_25_code 6 (some .boolean) G p s m meth c args) : ∀ n : Nat, ∀ (v0 : Nat) (x1 : Int32) (x2 : Int64) (x5 : Int32) (σ : rs_Mem) (H : Heap) (locs : List Loc) (ls : Array Slot), rs_Ok S 11 v0 → rs_H G Bm S σ H → rs_T S σ → va_S (rs_A Bm) s.heap H locs → lv_has ls 6 [(0, .ref (Bm + v0)), (1, .int x1), (2, .long x2), (5, .int x5)] → (L_Mo_feed_53 S.2.2 Q n) v0 x1 x2 x5 σ → W p l e { frames := 10, cells := 0, slots := 0, locals := 230 } s m args below meth c H locs 0 0 (MQ below (rs_Qi G Bm S Q) args s 0 0 (rs_A Bm)) (F0 m 53 ls []) := by
  have hx := C.1
  have hb := C.2.1
  intro n
  induction n with
  | zero => intros; rename_i hF; exact hF.elim
  | succ n hK53 =>
    intro v0 x1 x2 x5 σ H locs ls h_v0 hH hT hS hl hF
    replace hF : G_Mo_feed_53 S.2.2 Q (L_Mo_feed_53 S.2.2 Q n) v0 x1 x2 x5 σ := hF
    unfold G_Mo_feed_53 at hF
    refine lv_iload hx hb d_Mo_feed_53 (lv_at hl 3 rfl) ?_
    refine lv_if_lt hx hb d_Mo_feed_55 (tgt := 81) rfl (fun hc => ?_) (fun hc => ?_)
    · replace hF := hF.1 hc
      refine lv_aload_n hx hb d_Mo_feed_81 rfl (lv_at hl 0 rfl) ?_
      refine rs_cv (rs_runV C hH hT hl (J_Mo_tell l h_v0 hF) rc_Mo_tell tw_1037 tw_1039 ts_34 h_v0 ⟨rfl, by decide, by decide⟩ rfl ⟨⟨rfl, rfl⟩, by decide, by decide, by decide⟩ (Nat.le_of_ble_eq_true rfl) rfl d_Mo_feed_82) hS (fun σ51 H locs hH hT hS hF => ?_)
      refine lv_iconst hx hb d_Mo_feed_85 ki_1 ?_
      exact rs_zret C hH hT hS (by decide) hF d_Mo_feed_86
    · replace hF := hF.2 hc
      refine lv_aload_n hx hb d_Mo_feed_58 rfl (lv_at hl 0 rfl) ?_
      refine lv_iload_n hx hb d_Mo_feed_59 rfl (lv_at hl 1 rfl) ?_
      refine lv_lload_n hx hb d_Mo_feed_60 rfl (lv_at hl 2 rfl) ?_
      refine lv_bipush hx hb d_Mo_feed_61 kb_8 ?_
      refine lv_iload hx hb d_Mo_feed_63 (lv_at hl 3 rfl) ?_
      refine lv_imul hx hb d_Mo_feed_65 ?_
      refine lv_lshr hx hb d_Mo_feed_66 rfl ?_
      refine lv_ldc2 hx hb C.2.2.2.2.1 (C.2.2.2.2.2.1 _ tw_1179) d_Mo_feed_67 ?_
      refine lv_land hx hb d_Mo_feed_70 ?_
      refine lv_l2i hx hb d_Mo_feed_71 rfl ?_
      refine rs_cv (rs_runV C hH hT hl (J_Mo_come l h_v0 hF) rc_Mo_come tw_1180 tw_1182 ts_59 h_v0 ⟨rfl, by decide, by decide⟩ rfl ⟨⟨rfl, rfl⟩, by decide, by decide, by decide⟩ (Nat.le_of_ble_eq_true rfl) rfl d_Mo_feed_72) hS (fun σ51 H locs hH hT hS hF => ?_)
      obtain ⟨x52, ex52⟩ : ∃ z : Int32, z = x5 + (-1 : Int32) := ⟨_, rfl⟩
      replace hF := hF x52 ex52
      refine lv_iinc hx hb d_Mo_feed_75 hl (k := 3) rfl (v := x52) (by rw [ki_m1, ex52]) (by decide) (lv' := [(5, .int x52), (0, .ref (Bm + v0)), (1, .int x1), (2, .long x2)]) rfl (fun ls hl => ?_)
      refine lv_goto hx hb d_Mo_feed_78 (tgt := 53) rfl ?_
      exact hK53 v0 x1 x2 x52 σ51 _ _ _ h_v0 hH hT hS (lv_sub hl [1, 2, 3, 0] rfl) hF
set_option maxRecDepth 20000 in
theorem JB_Mo_feed_26 {p : Program} {l : Launch} {e : Env} {s : State} {m : MethodId} {args : Array Value} {below : List Frame} {meth : Method} {c : Code} {G : rs_G} {Bm : Nat} {S : rs_Shp} {Q : Int32 → rs_Mem → Prop} (C : rs_C "RouteSpeakerModel" prog_12_method_25_code 6 (some .boolean) G p s m meth c args) (v0 : Nat) (x1 : Int32) (x2 : Int64) (x4 : Int32) (w0 : Nat) (y1 : Int32) (σ : rs_Mem) (H : Heap) (locs : List Loc) (ls : Array Slot) (h_v0 : rs_Ok S 11 v0) (h_w0 : rs_Ok S 11 w0) (hH : rs_H G Bm S σ H) (hT : rs_T S σ) (hS : va_S (rs_A Bm) s.heap H locs) (hl : lv_has ls 6 [(0, .ref (Bm + v0)), (1, .int x1), (2, .long x2), (4, .int x4)]) (hF : B_Mo_feed_26 S.2.2 Q v0 x1 x2 x4 w0 y1 σ) :
    W p l e { frames := 10, cells := 0, slots := 0, locals := 230 } s m args below meth c H locs 0 0 (MQ below (rs_Qi G Bm S Q) args s 0 0 (rs_A Bm)) (F0 m 26 ls [.int y1, .ref (Bm + w0)]) := by
  have hx := C.1
  have hb := C.2.1
  unfold B_Mo_feed_26 at hF
  refine rs_putI C hH hT hS h_w0 fk_11_0 rfl tw_899 d_Mo_feed_26 (fun σ51 H locs eσ51 hH hT hS => ?_)
  replace hF := hF σ51 eσ51
  refine lv_aload_n hx hb d_Mo_feed_29 rfl (lv_at hl 0 rfl) ?_
  refine rs_getI C hH h_v0 fk_11_0 tw_899 d_Mo_feed_30 ?_
  refine lv_if_ne hx hb d_Mo_feed_33 (tgt := 45) rfl (fun hc => ?_) (fun hc => ?_)
  · replace hF := hF.1 hc
    refine lv_iconst hx hb d_Mo_feed_45 ki_0 ?_
    exact rs_zret C hH hT hS (by decide) hF d_Mo_feed_46
  · replace hF := hF.2 hc
    refine lv_aload_n hx hb d_Mo_feed_36 rfl (lv_at hl 0 rfl) ?_
    refine rs_getR C hH hT h_v0 fk_11_3 tw_902 d_Mo_feed_37 (fun h52 => ?_)
    refine lv_iload_n hx hb d_Mo_feed_40 rfl (lv_at hl 1 rfl) ?_
    obtain ⟨g53, hF⟩ := hF
    refine rs_iald C hH h52 g53 d_Mo_feed_41 ?_
    refine lv_if_ne hx hb d_Mo_feed_42 (tgt := 47) rfl (fun hc => ?_) (fun hc => ?_)
    · replace hF := hF.1 hc
      refine lv_iload hx hb d_Mo_feed_47 (lv_at hl 3 rfl) ?_
      refine lv_iconst hx hb d_Mo_feed_49 ki_1 ?_
      refine lv_isub hx hb d_Mo_feed_50 ?_
      refine lv_topi (fun x54 ex54 => ?_)
      replace hF := hF x54 ex54
      refine lv_istore hx hb d_Mo_feed_51 hl (by decide) (lv' := [(5, .int x54), (0, .ref (Bm + v0)), (1, .int x1), (2, .long x2), (4, .int x4)]) rfl (fun ls hl => ?_)
      obtain ⟨n, hF⟩ := hF
      exact JL_Mo_feed_53 C n v0 x1 x2 x54 σ51 _ _ _ h_v0 hH hT hS (lv_sub hl [1, 2, 3, 0] rfl) hF
    · replace hF := hF.2 hc
      refine lv_iconst hx hb d_Mo_feed_45 ki_0 ?_
      exact rs_zret C hH hT hS (by decide) hF d_Mo_feed_46
set_option maxRecDepth 20000 in
theorem JB_Mo_feed_25 {p : Program} {l : Launch} {e : Env} {s : State} {m : MethodId} {args : Array Value} {below : List Frame} {meth : Method} {c : Code} {G : rs_G} {Bm : Nat} {S : rs_Shp} {Q : Int32 → rs_Mem → Prop} (C : rs_C "RouteSpeakerModel" prog_12_method_25_code 6 (some .boolean) G p s m meth c args) (v0 : Nat) (x1 : Int32) (x2 : Int64) (x4 : Int32) (w0 : Nat) (σ : rs_Mem) (H : Heap) (locs : List Loc) (ls : Array Slot) (h_v0 : rs_Ok S 11 v0) (h_w0 : rs_Ok S 11 w0) (hH : rs_H G Bm S σ H) (hT : rs_T S σ) (hS : va_S (rs_A Bm) s.heap H locs) (hl : lv_has ls 6 [(0, .ref (Bm + v0)), (1, .int x1), (2, .long x2), (4, .int x4)]) (hF : B_Mo_feed_25 S.2.2 Q v0 x1 x2 x4 w0 σ) :
    W p l e { frames := 10, cells := 0, slots := 0, locals := 230 } s m args below meth c H locs 0 0 (MQ below (rs_Qi G Bm S Q) args s 0 0 (rs_A Bm)) (F0 m 25 ls [.ref (Bm + w0)]) := by
  have hx := C.1
  have hb := C.2.1
  unfold B_Mo_feed_25 at hF
  refine lv_iconst hx hb d_Mo_feed_25 ki_1 ?_
  exact JB_Mo_feed_26 C v0 x1 x2 x4 w0 (1 : Int32) σ _ _ _ h_v0 h_w0 hH hT hS (lv_sub hl [0, 1, 2, 3] rfl) hF
abbrev y_Mo_feed : MethodName := ({ cls := "RouteSpeakerModel", name := "feed", desc := "(IJI)Z" } : Jvm.MethodName)
theorem rc_Mo_feed : rs_Cal y_Mo_feed prog_12_method_25_code 6 (some .boolean) 3 := ⟨tw_1178, tw_11, by decide, by decide, by decide +kernel⟩
set_option maxRecDepth 20000 in
theorem J_Mo_feed (l : Launch) {G : rs_G} {Bm : Nat} {S : rs_Shp} {v0 : Nat} {x1 : Int32} {x2 : Int64} {x4 : Int32} {σ : rs_Mem} {Q : Int32 → rs_Mem → Prop} (h_v0 : rs_Ok S 11 v0) (hF : F_Mo_feed S.2.2 v0 x1 x2 x4 σ Q) :
    Met l y_Mo_feed (rs_ws y_Mo_feed prog_12_method_25_code 6 (some .boolean)) { frames := 10, cells := 0, slots := 0, locals := 230 } (rs_P G Bm S σ [.ref (Bm + v0), .int x1, .long x2, .int x4]) (rs_Qi G Bm S Q) 0 0 (rs_A Bm) := by
  refine rs_met (own := "RouteSpeakerModel") (by decide) rfl (Nat.le_of_ble_eq_true rfl) (fun p e s m below meth c ls C hl hH hT hS => ?_)
  replace hl : lv_has ls 6 [(0, .ref (Bm + v0)), (1, .int x1), (2, .long x2), (4, .int x4)] := hl
  have hx := C.1
  have hb := C.2.1
  unfold F_Mo_feed at hF
  refine lv_aload_n hx hb d_Mo_feed_0 rfl (lv_at hl 0 rfl) ?_
  refine lv_iload_n hx hb d_Mo_feed_1 rfl (lv_at hl 1 rfl) ?_
  refine rs_ci (rs_runS C hH hT hl (J_Mo_isPeer l hF) rc_Mo_isPeer tw_1031 tw_1032 rfl ⟨⟨rfl, rfl⟩, by decide, by decide, by decide⟩ (Nat.le_of_ble_eq_true rfl) rfl d_Mo_feed_2) hS (fun x52 σ51 H locs hH hT hS hF => ?_)
  refine lv_if_eq hx hb d_Mo_feed_5 (tgt := 25) rfl (fun hc => ?_) (fun hc => ?_)
  · replace hF := hF.1 hc
    exact JB_Mo_feed_25 C v0 x1 x2 x4 v0 σ51 _ _ _ h_v0 h_v0 hH hT hS (lv_sub hl [0, 1, 2, 3] rfl) hF
  · replace hF := hF.2 hc
    refine lv_iload hx hb d_Mo_feed_8 (lv_at hl 3 rfl) ?_
    refine lv_iconst hx hb d_Mo_feed_10 ki_1 ?_
    refine lv_icmp_lt hx hb d_Mo_feed_11 (tgt := 25) rfl (fun hc => ?_) (fun hc => ?_)
    · replace hF := hF.1 hc
      exact JB_Mo_feed_25 C v0 x1 x2 x4 v0 σ51 _ _ _ h_v0 h_v0 hH hT hS (lv_sub hl [0, 1, 2, 3] rfl) hF
    · replace hF := hF.2 hc
      refine lv_iload hx hb d_Mo_feed_14 (lv_at hl 3 rfl) ?_
      refine lv_bipush hx hb d_Mo_feed_16 kb_8 ?_
      refine lv_icmp_gt hx hb d_Mo_feed_18 (tgt := 25) rfl (fun hc => ?_) (fun hc => ?_)
      · replace hF := hF.1 hc
        exact JB_Mo_feed_25 C v0 x1 x2 x4 v0 σ51 _ _ _ h_v0 h_v0 hH hT hS (lv_sub hl [0, 1, 2, 3] rfl) hF
      · replace hF := hF.2 hc
        refine lv_iconst hx hb d_Mo_feed_21 ki_0 ?_
        refine lv_goto hx hb d_Mo_feed_22 (tgt := 26) rfl ?_
        exact JB_Mo_feed_26 C v0 x1 x2 x4 v0 (0 : Int32) σ51 _ _ _ h_v0 h_v0 hH hT hS (lv_sub hl [0, 1, 2, 3] rfl) hF
/-! RouteSpeakerModel.tick()I -/
theorem d_Mo_tick_0 : decode prog_12_method_30_code 0 = .ok (.aload_n 0, 1) := by decide +kernel
theorem d_Mo_tick_1 : decode prog_12_method_30_code 1 = .ok (.iconst 0, 1) := by decide +kernel
theorem d_Mo_tick_2 : decode prog_12_method_30_code 2 = .ok (.putfield 126, 3) := by decide +kernel
theorem d_Mo_tick_5 : decode prog_12_method_30_code 5 = .ok (.iconst 0, 1) := by decide +kernel
theorem d_Mo_tick_6 : decode prog_12_method_30_code 6 = .ok (.istore_n 1, 1) := by decide +kernel
theorem d_Mo_tick_7 : decode prog_12_method_30_code 7 = .ok (.iload_n 1, 1) := by decide +kernel
theorem d_Mo_tick_8 : decode prog_12_method_30_code 8 = .ok (.iconst 4, 1) := by decide +kernel
theorem d_Mo_tick_9 : decode prog_12_method_30_code 9 = .ok (.if_icmp .ge (134), 3) := by decide +kernel
theorem d_Mo_tick_12 : decode prog_12_method_30_code 12 = .ok (.aload_n 0, 1) := by decide +kernel
theorem d_Mo_tick_13 : decode prog_12_method_30_code 13 = .ok (.getfield 16, 3) := by decide +kernel
theorem d_Mo_tick_16 : decode prog_12_method_30_code 16 = .ok (.iload_n 1, 1) := by decide +kernel
theorem d_Mo_tick_17 : decode prog_12_method_30_code 17 = .ok (.iaload, 1) := by decide +kernel
theorem d_Mo_tick_18 : decode prog_12_method_30_code 18 = .ok (.iconst 1, 1) := by decide +kernel
theorem d_Mo_tick_19 : decode prog_12_method_30_code 19 = .ok (.if_icmp .eq (21), 3) := by decide +kernel
theorem d_Mo_tick_22 : decode prog_12_method_30_code 22 = .ok (.aload_n 0, 1) := by decide +kernel
theorem d_Mo_tick_23 : decode prog_12_method_30_code 23 = .ok (.getfield 16, 3) := by decide +kernel
theorem d_Mo_tick_26 : decode prog_12_method_30_code 26 = .ok (.iload_n 1, 1) := by decide +kernel
theorem d_Mo_tick_27 : decode prog_12_method_30_code 27 = .ok (.iaload, 1) := by decide +kernel
theorem d_Mo_tick_28 : decode prog_12_method_30_code 28 = .ok (.ifCond .eq (16), 3) := by decide +kernel
theorem d_Mo_tick_31 : decode prog_12_method_30_code 31 = .ok (.aload_n 0, 1) := by decide +kernel
theorem d_Mo_tick_32 : decode prog_12_method_30_code 32 = .ok (.getfield 25, 3) := by decide +kernel
theorem d_Mo_tick_35 : decode prog_12_method_30_code 35 = .ok (.iload_n 1, 1) := by decide +kernel
theorem d_Mo_tick_36 : decode prog_12_method_30_code 36 = .ok (.iaload, 1) := by decide +kernel
theorem d_Mo_tick_37 : decode prog_12_method_30_code 37 = .ok (.ifCond .le (7), 3) := by decide +kernel
theorem d_Mo_tick_40 : decode prog_12_method_30_code 40 = .ok (.iconst 1, 1) := by decide +kernel
theorem d_Mo_tick_41 : decode prog_12_method_30_code 41 = .ok (.goto (4), 3) := by decide +kernel
theorem d_Mo_tick_44 : decode prog_12_method_30_code 44 = .ok (.iconst 0, 1) := by decide +kernel
theorem d_Mo_tick_45 : decode prog_12_method_30_code 45 = .ok (.istore_n 2, 1) := by decide +kernel
theorem d_Mo_tick_46 : decode prog_12_method_30_code 46 = .ok (.iload_n 2, 1) := by decide +kernel
theorem d_Mo_tick_47 : decode prog_12_method_30_code 47 = .ok (.ifCond .eq (90), 3) := by decide +kernel
theorem d_Mo_tick_50 : decode prog_12_method_30_code 50 = .ok (.aload_n 0, 1) := by decide +kernel
theorem d_Mo_tick_51 : decode prog_12_method_30_code 51 = .ok (.getfield 19, 3) := by decide +kernel
theorem d_Mo_tick_54 : decode prog_12_method_30_code 54 = .ok (.iload_n 1, 1) := by decide +kernel
theorem d_Mo_tick_55 : decode prog_12_method_30_code 55 = .ok (.dup2, 1) := by decide +kernel
theorem d_Mo_tick_56 : decode prog_12_method_30_code 56 = .ok (.iaload, 1) := by decide +kernel
theorem d_Mo_tick_57 : decode prog_12_method_30_code 57 = .ok (.iconst 1, 1) := by decide +kernel
theorem d_Mo_tick_58 : decode prog_12_method_30_code 58 = .ok (.isub, 1) := by decide +kernel
theorem d_Mo_tick_59 : decode prog_12_method_30_code 59 = .ok (.iastore, 1) := by decide +kernel
theorem d_Mo_tick_60 : decode prog_12_method_30_code 60 = .ok (.aload_n 0, 1) := by decide +kernel
theorem d_Mo_tick_61 : decode prog_12_method_30_code 61 = .ok (.getfield 19, 3) := by decide +kernel
theorem d_Mo_tick_64 : decode prog_12_method_30_code 64 = .ok (.iload_n 1, 1) := by decide +kernel
theorem d_Mo_tick_65 : decode prog_12_method_30_code 65 = .ok (.iaload, 1) := by decide +kernel
theorem d_Mo_tick_66 : decode prog_12_method_30_code 66 = .ok (.ifCond .ne (13), 3) := by decide +kernel
theorem d_Mo_tick_69 : decode prog_12_method_30_code 69 = .ok (.aload_n 0, 1) := by decide +kernel
theorem d_Mo_tick_70 : decode prog_12_method_30_code 70 = .ok (.iload_n 1, 1) := by decide +kernel
theorem d_Mo_tick_71 : decode prog_12_method_30_code 71 = .ok (.iconst 4, 1) := by decide +kernel
theorem d_Mo_tick_72 : decode prog_12_method_30_code 72 = .ok (.iconst 0, 1) := by decide +kernel
theorem d_Mo_tick_73 : decode prog_12_method_30_code 73 = .ok (.invokevirtual 174, 3) := by decide +kernel
theorem d_Mo_tick_76 : decode prog_12_method_30_code 76 = .ok (.goto (23), 3) := by decide +kernel
theorem d_Mo_tick_79 : decode prog_12_method_30_code 79 = .ok (.aload_n 0, 1) := by decide +kernel
theorem d_Mo_tick_80 : decode prog_12_method_30_code 80 = .ok (.getfield 16, 3) := by decide +kernel
theorem d_Mo_tick_83 : decode prog_12_method_30_code 83 = .ok (.iload_n 1, 1) := by decide +kernel
theorem d_Mo_tick_84 : decode prog_12_method_30_code 84 = .ok (.iaload, 1) := by decide +kernel
theorem d_Mo_tick_85 : decode prog_12_method_30_code 85 = .ok (.iconst 3, 1) := by decide +kernel
theorem d_Mo_tick_86 : decode prog_12_method_30_code 86 = .ok (.if_icmp .ne (13), 3) := by decide +kernel
theorem d_Mo_tick_89 : decode prog_12_method_30_code 89 = .ok (.aload_n 0, 1) := by decide +kernel
theorem d_Mo_tick_90 : decode prog_12_method_30_code 90 = .ok (.getfield 22, 3) := by decide +kernel
theorem d_Mo_tick_93 : decode prog_12_method_30_code 93 = .ok (.iload_n 1, 1) := by decide +kernel
theorem d_Mo_tick_94 : decode prog_12_method_30_code 94 = .ok (.dup2, 1) := by decide +kernel
theorem d_Mo_tick_95 : decode prog_12_method_30_code 95 = .ok (.iaload, 1) := by decide +kernel
theorem d_Mo_tick_96 : decode prog_12_method_30_code 96 = .ok (.iconst 1, 1) := by decide +kernel
theorem d_Mo_tick_97 : decode prog_12_method_30_code 97 = .ok (.isub, 1) := by decide +kernel
theorem d_Mo_tick_98 : decode prog_12_method_30_code 98 = .ok (.iastore, 1) := by decide +kernel
theorem d_Mo_tick_99 : decode prog_12_method_30_code 99 = .ok (.aload_n 0, 1) := by decide +kernel
theorem d_Mo_tick_100 : decode prog_12_method_30_code 100 = .ok (.getfield 16, 3) := by decide +kernel
theorem d_Mo_tick_103 : decode prog_12_method_30_code 103 = .ok (.iload_n 1, 1) := by decide +kernel
theorem d_Mo_tick_104 : decode prog_12_method_30_code 104 = .ok (.iaload, 1) := by decide +kernel
theorem d_Mo_tick_105 : decode prog_12_method_30_code 105 = .ok (.iconst 3, 1) := by decide +kernel
theorem d_Mo_tick_106 : decode prog_12_method_30_code 106 = .ok (.if_icmp .ne (31), 3) := by decide +kernel
theorem d_Mo_tick_109 : decode prog_12_method_30_code 109 = .ok (.aload_n 0, 1) := by decide +kernel
theorem d_Mo_tick_110 : decode prog_12_method_30_code 110 = .ok (.getfield 22, 3) := by decide +kernel
theorem d_Mo_tick_113 : decode prog_12_method_30_code 113 = .ok (.iload_n 1, 1) := by decide +kernel
theorem d_Mo_tick_114 : decode prog_12_method_30_code 114 = .ok (.iaload, 1) := by decide +kernel
theorem d_Mo_tick_115 : decode prog_12_method_30_code 115 = .ok (.ifCond .ne (22), 3) := by decide +kernel
theorem d_Mo_tick_118 : decode prog_12_method_30_code 118 = .ok (.aload_n 0, 1) := by decide +kernel
theorem d_Mo_tick_119 : decode prog_12_method_30_code 119 = .ok (.getfield 22, 3) := by decide +kernel
theorem d_Mo_tick_122 : decode prog_12_method_30_code 122 = .ok (.iload_n 1, 1) := by decide +kernel
theorem d_Mo_tick_123 : decode prog_12_method_30_code 123 = .ok (.aload_n 0, 1) := by decide +kernel
theorem d_Mo_tick_124 : decode prog_12_method_30_code 124 = .ok (.getfield 25, 3) := by decide +kernel
theorem d_Mo_tick_127 : decode prog_12_method_30_code 127 = .ok (.iload_n 1, 1) := by decide +kernel
theorem d_Mo_tick_128 : decode prog_12_method_30_code 128 = .ok (.iaload, 1) := by decide +kernel
theorem d_Mo_tick_129 : decode prog_12_method_30_code 129 = .ok (.iconst 3, 1) := by decide +kernel
theorem d_Mo_tick_130 : decode prog_12_method_30_code 130 = .ok (.idiv, 1) := by decide +kernel
theorem d_Mo_tick_131 : decode prog_12_method_30_code 131 = .ok (.iastore, 1) := by decide +kernel
theorem d_Mo_tick_132 : decode prog_12_method_30_code 132 = .ok (.aload_n 0, 1) := by decide +kernel
theorem d_Mo_tick_133 : decode prog_12_method_30_code 133 = .ok (.iload_n 1, 1) := by decide +kernel
theorem d_Mo_tick_134 : decode prog_12_method_30_code 134 = .ok (.invokevirtual 196, 3) := by decide +kernel
theorem d_Mo_tick_137 : decode prog_12_method_30_code 137 = .ok (.iinc 1 (1), 3) := by decide +kernel
theorem d_Mo_tick_140 : decode prog_12_method_30_code 140 = .ok (.goto (-133), 3) := by decide +kernel
theorem d_Mo_tick_143 : decode prog_12_method_30_code 143 = .ok (.iconst 0, 1) := by decide +kernel
theorem d_Mo_tick_144 : decode prog_12_method_30_code 144 = .ok (.istore_n 1, 1) := by decide +kernel
theorem d_Mo_tick_145 : decode prog_12_method_30_code 145 = .ok (.iload_n 1, 1) := by decide +kernel
theorem d_Mo_tick_146 : decode prog_12_method_30_code 146 = .ok (.bipush (48), 2) := by decide +kernel
theorem d_Mo_tick_148 : decode prog_12_method_30_code 148 = .ok (.if_icmp .ge (58), 3) := by decide +kernel
theorem d_Mo_tick_151 : decode prog_12_method_30_code 151 = .ok (.aload_n 0, 1) := by decide +kernel
theorem d_Mo_tick_152 : decode prog_12_method_30_code 152 = .ok (.getfield 104, 3) := by decide +kernel
theorem d_Mo_tick_155 : decode prog_12_method_30_code 155 = .ok (.iload_n 1, 1) := by decide +kernel
theorem d_Mo_tick_156 : decode prog_12_method_30_code 156 = .ok (.aload_n 0, 1) := by decide +kernel
theorem d_Mo_tick_157 : decode prog_12_method_30_code 157 = .ok (.getfield 104, 3) := by decide +kernel
theorem d_Mo_tick_160 : decode prog_12_method_30_code 160 = .ok (.iload_n 1, 1) := by decide +kernel
theorem d_Mo_tick_161 : decode prog_12_method_30_code 161 = .ok (.daload, 1) := by decide +kernel
theorem d_Mo_tick_162 : decode prog_12_method_30_code 162 = .ok (.ldc2_w 199, 3) := by decide +kernel
theorem d_Mo_tick_165 : decode prog_12_method_30_code 165 = .ok (.dmul, 1) := by decide +kernel
theorem d_Mo_tick_166 : decode prog_12_method_30_code 166 = .ok (.dastore, 1) := by decide +kernel
theorem d_Mo_tick_167 : decode prog_12_method_30_code 167 = .ok (.aload_n 0, 1) := by decide +kernel
theorem d_Mo_tick_168 : decode prog_12_method_30_code 168 = .ok (.getfield 108, 3) := by decide +kernel
theorem d_Mo_tick_171 : decode prog_12_method_30_code 171 = .ok (.iload_n 1, 1) := by decide +kernel
theorem d_Mo_tick_172 : decode prog_12_method_30_code 172 = .ok (.aload_n 0, 1) := by decide +kernel
theorem d_Mo_tick_173 : decode prog_12_method_30_code 173 = .ok (.getfield 108, 3) := by decide +kernel
theorem d_Mo_tick_176 : decode prog_12_method_30_code 176 = .ok (.iload_n 1, 1) := by decide +kernel
theorem d_Mo_tick_177 : decode prog_12_method_30_code 177 = .ok (.baload, 1) := by decide +kernel
theorem d_Mo_tick_178 : decode prog_12_method_30_code 178 = .ok (.ifCond .eq (20), 3) := by decide +kernel
theorem d_Mo_tick_181 : decode prog_12_method_30_code 181 = .ok (.aload_n 0, 1) := by decide +kernel
theorem d_Mo_tick_182 : decode prog_12_method_30_code 182 = .ok (.getfield 104, 3) := by decide +kernel
theorem d_Mo_tick_185 : decode prog_12_method_30_code 185 = .ok (.iload_n 1, 1) := by decide +kernel
theorem d_Mo_tick_186 : decode prog_12_method_30_code 186 = .ok (.daload, 1) := by decide +kernel
theorem d_Mo_tick_187 : decode prog_12_method_30_code 187 = .ok (.ldc2_w 201, 3) := by decide +kernel
theorem d_Mo_tick_190 : decode prog_12_method_30_code 190 = .ok (.dcmp .l, 1) := by decide +kernel
theorem d_Mo_tick_191 : decode prog_12_method_30_code 191 = .ok (.ifCond .lt (7), 3) := by decide +kernel
theorem d_Mo_tick_194 : decode prog_12_method_30_code 194 = .ok (.iconst 1, 1) := by decide +kernel
theorem d_Mo_tick_195 : decode prog_12_method_30_code 195 = .ok (.goto (4), 3) := by decide +kernel
theorem d_Mo_tick_198 : decode prog_12_method_30_code 198 = .ok (.iconst 0, 1) := by decide +kernel
theorem d_Mo_tick_199 : decode prog_12_method_30_code 199 = .ok (.bastore, 1) := by decide +kernel
theorem d_Mo_tick_200 : decode prog_12_method_30_code 200 = .ok (.iinc 1 (1), 3) := by decide +kernel
theorem d_Mo_tick_203 : decode prog_12_method_30_code 203 = .ok (.goto (-58), 3) := by decide +kernel
theorem d_Mo_tick_206 : decode prog_12_method_30_code 206 = .ok (.aload_n 0, 1) := by decide +kernel
theorem d_Mo_tick_207 : decode prog_12_method_30_code 207 = .ok (.invokevirtual 164, 3) := by decide +kernel
theorem d_Mo_tick_210 : decode prog_12_method_30_code 210 = .ok (.iconst 0, 1) := by decide +kernel
theorem d_Mo_tick_211 : decode prog_12_method_30_code 211 = .ok (.istore_n 1, 1) := by decide +kernel
theorem d_Mo_tick_212 : decode prog_12_method_30_code 212 = .ok (.iconst 0, 1) := by decide +kernel
theorem d_Mo_tick_213 : decode prog_12_method_30_code 213 = .ok (.istore_n 2, 1) := by decide +kernel
theorem d_Mo_tick_214 : decode prog_12_method_30_code 214 = .ok (.iload_n 2, 1) := by decide +kernel
theorem d_Mo_tick_215 : decode prog_12_method_30_code 215 = .ok (.iconst 4, 1) := by decide +kernel
theorem d_Mo_tick_216 : decode prog_12_method_30_code 216 = .ok (.if_icmp .ge (27), 3) := by decide +kernel
theorem d_Mo_tick_219 : decode prog_12_method_30_code 219 = .ok (.iload_n 1, 1) := by decide +kernel
theorem d_Mo_tick_220 : decode prog_12_method_30_code 220 = .ok (.aload_n 0, 1) := by decide +kernel
theorem d_Mo_tick_221 : decode prog_12_method_30_code 221 = .ok (.getfield 16, 3) := by decide +kernel
theorem d_Mo_tick_224 : decode prog_12_method_30_code 224 = .ok (.iload_n 2, 1) := by decide +kernel
theorem d_Mo_tick_225 : decode prog_12_method_30_code 225 = .ok (.iaload, 1) := by decide +kernel
theorem d_Mo_tick_226 : decode prog_12_method_30_code 226 = .ok (.iconst 3, 1) := by decide +kernel
theorem d_Mo_tick_227 : decode prog_12_method_30_code 227 = .ok (.if_icmp .ne (7), 3) := by decide +kernel
theorem d_Mo_tick_230 : decode prog_12_method_30_code 230 = .ok (.iconst 1, 1) := by decide +kernel
theorem d_Mo_tick_231 : decode prog_12_method_30_code 231 = .ok (.goto (4), 3) := by decide +kernel
theorem d_Mo_tick_234 : decode prog_12_method_30_code 234 = .ok (.iconst 0, 1) := by decide +kernel
theorem d_Mo_tick_235 : decode prog_12_method_30_code 235 = .ok (.iadd, 1) := by decide +kernel
theorem d_Mo_tick_236 : decode prog_12_method_30_code 236 = .ok (.istore_n 1, 1) := by decide +kernel
theorem d_Mo_tick_237 : decode prog_12_method_30_code 237 = .ok (.iinc 2 (1), 3) := by decide +kernel
theorem d_Mo_tick_240 : decode prog_12_method_30_code 240 = .ok (.goto (-26), 3) := by decide +kernel
theorem d_Mo_tick_243 : decode prog_12_method_30_code 243 = .ok (.iload_n 1, 1) := by decide +kernel
theorem d_Mo_tick_244 : decode prog_12_method_30_code 244 = .ok (.ireturn, 1) := by decide +kernel
def B_Mo_tick_99 (N : Nat → Nat) (K7 : Nat → Int32 → rs_Mem → Prop) (Q : Int32 → rs_Mem → Prop) (v0 : Nat) (x1 : Int32) (σ : rs_Mem) : Prop :=
  (vp_in x1 (N (rs_R σ v0 3)) ∧ ((¬ ((rs_I σ (rs_R σ v0 3) x1.toNatClampNeg) = (3 : Int32)) → (∀ x53 : Int32, x53 = x1 + (1 : Int32) → (K7 v0 x53 σ))) ∧ ((rs_I σ (rs_R σ v0 3) x1.toNatClampNeg) = (3 : Int32) → (vp_in x1 (N (rs_R σ v0 5)) ∧ ((¬ ((rs_I σ (rs_R σ v0 5) x1.toNatClampNeg) = 0) → (∀ x55 : Int32, x55 = x1 + (1 : Int32) → (K7 v0 x55 σ))) ∧ ((rs_I σ (rs_R σ v0 5) x1.toNatClampNeg) = 0 → (vp_in x1 (N (rs_R σ v0 6)) ∧ (vp_in x1 (N (rs_R σ v0 5)) ∧ ∀ σ59 : rs_Mem, σ59 = rs_sI σ (rs_R σ v0 5) x1.toNatClampNeg ((rs_I σ (rs_R σ v0 6) x1.toNatClampNeg) / (3 : Int32)) → (F_Mo_keepAlive N v0 x1 σ59 (fun σ60 => (∀ x61 : Int32, x61 = x1 + (1 : Int32) → (K7 v0 x61 σ60))))))))))))
def B_Mo_tick_45 (N : Nat → Nat) (K7 : Nat → Int32 → rs_Mem → Prop) (Q : Int32 → rs_Mem → Prop) (v0 : Nat) (x1 : Int32) (y0 : Int32) (σ : rs_Mem) : Prop :=
  ((y0 = 0 → (∀ x51 : Int32, x51 = x1 + (1 : Int32) → (K7 v0 x51 σ))) ∧ (¬ (y0 = 0) → (vp_in x1 (N (rs_R σ v0 4)) ∧ (vp_in x1 (N (rs_R σ v0 4)) ∧ ∀ σ54 : rs_Mem, σ54 = rs_sI σ (rs_R σ v0 4) x1.toNatClampNeg ((rs_I σ (rs_R σ v0 4) x1.toNatClampNeg) - (1 : Int32)) → (vp_in x1 (N (rs_R σ54 v0 4)) ∧ ((¬ ((rs_I σ54 (rs_R σ54 v0 4) x1.toNatClampNeg) = 0) → (vp_in x1 (N (rs_R σ54 v0 3)) ∧ ((¬ ((rs_I σ54 (rs_R σ54 v0 3) x1.toNatClampNeg) = (3 : Int32)) → (B_Mo_tick_99 N K7 Q v0 x1 σ54)) ∧ ((rs_I σ54 (rs_R σ54 v0 3) x1.toNatClampNeg) = (3 : Int32) → (vp_in x1 (N (rs_R σ54 v0 5)) ∧ (vp_in x1 (N (rs_R σ54 v0 5)) ∧ ∀ σ62 : rs_Mem, σ62 = rs_sI σ54 (rs_R σ54 v0 5) x1.toNatClampNeg ((rs_I σ54 (rs_R σ54 v0 5) x1.toNatClampNeg) - (1 : Int32)) → (B_Mo_tick_99 N K7 Q v0 x1 σ62))))))) ∧ ((rs_I σ54 (rs_R σ54 v0 4) x1.toNatClampNeg) = 0 → (F_Mo_end N v0 x1 (4 : Int32) (0 : Int32) σ54 (fun σ57 => (B_Mo_tick_99 N K7 Q v0 x1 σ57))))))))))
def B_Mo_tick_40 (N : Nat → Nat) (K7 : Nat → Int32 → rs_Mem → Prop) (Q : Int32 → rs_Mem → Prop) (v0 : Nat) (x1 : Int32) (σ : rs_Mem) : Prop :=
  (B_Mo_tick_45 N K7 Q v0 x1 (1 : Int32) σ)
def B_Mo_tick_198 (N : Nat → Nat) (K145 : Nat → Int32 → rs_Mem → Prop) (Q : Int32 → rs_Mem → Prop) (v0 : Nat) (x1 : Int32) (w0 : Nat) (y1 : Int32) (σ : rs_Mem) : Prop :=
  (vp_in y1 (N w0) ∧ ∀ σ52 : rs_Mem, σ52 = rs_sI σ w0 y1.toNatClampNeg (0 : Int32) → (∀ x53 : Int32, x53 = x1 + (1 : Int32) → (K145 v0 x53 σ52)))
def B_Mo_tick_235 (N : Nat → Nat) (K214 : Nat → Int32 → Int32 → rs_Mem → Prop) (Q : Int32 → rs_Mem → Prop) (v0 : Nat) (x2 : Int32) (y0 : Int32) (y1 : Int32) (σ : rs_Mem) : Prop :=
  (∀ x51 : Int32, x51 = (y0 + y1) → (∀ x52 : Int32, x52 = x2 + (1 : Int32) → (K214 v0 x51 x52 σ)))
def G_Mo_tick_214 (N : Nat → Nat) (Q : Int32 → rs_Mem → Prop) (K214 : Nat → Int32 → Int32 → rs_Mem → Prop) (v0 : Nat) (x1 : Int32) (x2 : Int32) (σ : rs_Mem) : Prop :=
  (((4 : Int32) ≤ x2 → (Q x1 σ)) ∧ (¬ ((4 : Int32) ≤ x2) → (vp_in x2 (N (rs_R σ v0 3)) ∧ ((¬ ((rs_I σ (rs_R σ v0 3) x2.toNatClampNeg) = (3 : Int32)) → (B_Mo_tick_235 N K214 Q v0 x2 x1 (0 : Int32) σ)) ∧ ((rs_I σ (rs_R σ v0 3) x2.toNatClampNeg) = (3 : Int32) → (B_Mo_tick_235 N K214 Q v0 x2 x1 (1 : Int32) σ))))))
noncomputable def L_Mo_tick_214 (N : Nat → Nat) (Q : Int32 → rs_Mem → Prop) (n : Nat) : Nat → Int32 → Int32 → rs_Mem → Prop := Nat.rec (motive := fun _ => Nat → Int32 → Int32 → rs_Mem → Prop) (fun _ _ _ _ => False) (fun _ K => G_Mo_tick_214 N Q K) n
def G_Mo_tick_145 (N : Nat → Nat) (Q : Int32 → rs_Mem → Prop) (K145 : Nat → Int32 → rs_Mem → Prop) (v0 : Nat) (x1 : Int32) (σ : rs_Mem) : Prop :=
  (((48 : Int32) ≤ x1 → (F_Mo_tell N v0 σ (fun σ51 => (∃ n : Nat, L_Mo_tick_214 N Q n v0 (0 : Int32) (0 : Int32) σ51)))) ∧ (¬ ((48 : Int32) ≤ x1) → (vp_in x1 (N (rs_R σ v0 34)) ∧ (vf_n64 (FP.dmul (rs_D σ (rs_R σ v0 34) x1.toNatClampNeg) (4606056518893174784 : UInt64)) ∧ (vp_in x1 (N (rs_R σ v0 34)) ∧ ∀ σ56 : rs_Mem, σ56 = rs_sD σ (rs_R σ v0 34) x1.toNatClampNeg (FP.dmul (rs_D σ (rs_R σ v0 34) x1.toNatClampNeg) (4606056518893174784 : UInt64)) → (vp_in x1 (N (rs_R σ56 v0 35)) ∧ (((rs_I σ56 (rs_R σ56 v0 35) x1.toNatClampNeg) = 0 → (B_Mo_tick_198 N K145 Q v0 x1 (rs_R σ56 v0 35) x1 σ56)) ∧ (¬ ((rs_I σ56 (rs_R σ56 v0 35) x1.toNatClampNeg) = 0) → (vp_in x1 (N (rs_R σ56 v0 34)) ∧ (((Op.cmpValue (FP.dcmp (rs_D σ56 (rs_R σ56 v0 34) x1.toNatClampNeg) (4649808285585637376 : UInt64)) .l) < 0 → (B_Mo_tick_198 N K145 Q v0 x1 (rs_R σ56 v0 35) x1 σ56)) ∧ (¬ ((Op.cmpValue (FP.dcmp (rs_D σ56 (rs_R σ56 v0 34) x1.toNatClampNeg) (4649808285585637376 : UInt64)) .l) < 0) → (vp_in x1 (N (rs_R σ56 v0 35)) ∧ ∀ σ63 : rs_Mem, σ63 = rs_sI σ56 (rs_R σ56 v0 35) x1.toNatClampNeg (1 : Int32) → (∀ x64 : Int32, x64 = x1 + (1 : Int32) → (K145 v0 x64 σ63))))))))))))))
noncomputable def L_Mo_tick_145 (N : Nat → Nat) (Q : Int32 → rs_Mem → Prop) (n : Nat) : Nat → Int32 → rs_Mem → Prop := Nat.rec (motive := fun _ => Nat → Int32 → rs_Mem → Prop) (fun _ _ _ => False) (fun _ K => G_Mo_tick_145 N Q K) n
def B_Mo_tick_44 (N : Nat → Nat) (K7 : Nat → Int32 → rs_Mem → Prop) (Q : Int32 → rs_Mem → Prop) (v0 : Nat) (x1 : Int32) (σ : rs_Mem) : Prop :=
  (B_Mo_tick_45 N K7 Q v0 x1 (0 : Int32) σ)
def G_Mo_tick_7 (N : Nat → Nat) (Q : Int32 → rs_Mem → Prop) (K7 : Nat → Int32 → rs_Mem → Prop) (v0 : Nat) (x1 : Int32) (σ : rs_Mem) : Prop :=
  (((4 : Int32) ≤ x1 → (∃ n : Nat, L_Mo_tick_145 N Q n v0 (0 : Int32) σ)) ∧ (¬ ((4 : Int32) ≤ x1) → (vp_in x1 (N (rs_R σ v0 3)) ∧ (((rs_I σ (rs_R σ v0 3) x1.toNatClampNeg) = (1 : Int32) → (B_Mo_tick_40 N K7 Q v0 x1 σ)) ∧ (¬ ((rs_I σ (rs_R σ v0 3) x1.toNatClampNeg) = (1 : Int32)) → (vp_in x1 (N (rs_R σ v0 3)) ∧ (((rs_I σ (rs_R σ v0 3) x1.toNatClampNeg) = 0 → (B_Mo_tick_44 N K7 Q v0 x1 σ)) ∧ (¬ ((rs_I σ (rs_R σ v0 3) x1.toNatClampNeg) = 0) → (vp_in x1 (N (rs_R σ v0 6)) ∧ (((rs_I σ (rs_R σ v0 6) x1.toNatClampNeg) ≤ 0 → (B_Mo_tick_44 N K7 Q v0 x1 σ)) ∧ (¬ ((rs_I σ (rs_R σ v0 6) x1.toNatClampNeg) ≤ 0) → (B_Mo_tick_40 N K7 Q v0 x1 σ))))))))))))
noncomputable def L_Mo_tick_7 (N : Nat → Nat) (Q : Int32 → rs_Mem → Prop) (n : Nat) : Nat → Int32 → rs_Mem → Prop := Nat.rec (motive := fun _ => Nat → Int32 → rs_Mem → Prop) (fun _ _ _ => False) (fun _ K => G_Mo_tick_7 N Q K) n
def F_Mo_tick (N : Nat → Nat) (v0 : Nat) (σ : rs_Mem) (Q : Int32 → rs_Mem → Prop) : Prop :=
  (∀ σ51 : rs_Mem, σ51 = rs_sI σ v0 0 (0 : Int32) → (∃ n : Nat, L_Mo_tick_7 N Q n v0 (0 : Int32) σ51))
set_option maxRecDepth 20000 in
theorem JB_Mo_tick_99 {p : Program} {l : Launch} {e : Env} {s : State} {m : MethodId} {args : Array Value} {below : List Frame} {meth : Method} {c : Code} {G : rs_G} {Bm : Nat} {S : rs_Shp} {K7 : Nat → Int32 → rs_Mem → Prop} {Q : Int32 → rs_Mem → Prop} (C : rs_C "RouteSpeakerModel" prog_12_method_30_code 3 (some .int) G p s m meth c args) (hK7 : ∀ (v0 : Nat) (x1 : Int32) (σ : rs_Mem) (H : Heap) (locs : List Loc) (ls : Array Slot), rs_Ok S 11 v0 → rs_H G Bm S σ H → rs_T S σ → va_S (rs_A Bm) s.heap H locs → lv_has ls 3 [(0, .ref (Bm + v0)), (1, .int x1)] → K7 v0 x1 σ → W p l e { frames := 9, cells := 0, slots := 0, locals := 208 } s m args below meth c H locs 0 0 (MQ below (rs_Qi G Bm S Q) args s 0 0 (rs_A Bm)) (F0 m 7 ls [])) (v0 : Nat) (x1 : Int32) (σ : rs_Mem) (H : Heap) (locs : List Loc) (ls : Array Slot) (h_v0 : rs_Ok S 11 v0) (hH : rs_H G Bm S σ H) (hT : rs_T S σ) (hS : va_S (rs_A Bm) s.heap H locs) (hl : lv_has ls 3 [(0, .ref (Bm + v0)), (1, .int x1)]) (hF : B_Mo_tick_99 S.2.2 K7 Q v0 x1 σ) :
    W p l e { frames := 9, cells := 0, slots := 0, locals := 208 } s m args below meth c H locs 0 0 (MQ below (rs_Qi G Bm S Q) args s 0 0 (rs_A Bm)) (F0 m 99 ls []) := by
  have hx := C.1
  have hb := C.2.1
  unfold B_Mo_tick_99 at hF
  refine lv_aload_n hx hb d_Mo_tick_99 rfl (lv_at hl 0 rfl) ?_
  refine rs_getR C hH hT h_v0 fk_11_3 tw_902 d_Mo_tick_100 (fun h51 => ?_)
  refine lv_iload_n hx hb d_Mo_tick_103 rfl (lv_at hl 1 rfl) ?_
  obtain ⟨g52, hF⟩ := hF
  refine rs_iald C hH h51 g52 d_Mo_tick_104 ?_
  refine lv_iconst hx hb d_Mo_tick_105 ki_3 ?_
  refine lv_icmp_ne hx hb d_Mo_tick_106 (tgt := 137) rfl (fun hc => ?_) (fun hc => ?_)
  · replace hF := hF.1 hc
    obtain ⟨x53, ex53⟩ : ∃ z : Int32, z = x1 + (1 : Int32) := ⟨_, rfl⟩
    replace hF := hF x53 ex53
    refine lv_iinc hx hb d_Mo_tick_137 hl (k := 1) rfl (v := x53) (by rw [ki_1, ex53]) (by decide) (lv' := [(1, .int x53), (0, .ref (Bm + v0))]) rfl (fun ls hl => ?_)
    refine lv_goto hx hb d_Mo_tick_140 (tgt := 7) rfl ?_
    exact hK7 v0 x53 σ _ _ _ h_v0 hH hT hS (lv_sub hl [1, 0] rfl) hF
  · replace hF := hF.2 hc
    refine lv_aload_n hx hb d_Mo_tick_109 rfl (lv_at hl 0 rfl) ?_
    refine rs_getR C hH hT h_v0 fk_11_5 tw_904 d_Mo_tick_110 (fun h53 => ?_)
    refine lv_iload_n hx hb d_Mo_tick_113 rfl (lv_at hl 1 rfl) ?_
    obtain ⟨g54, hF⟩ := hF
    refine rs_iald C hH h53 g54 d_Mo_tick_114 ?_
    refine lv_if_ne hx hb d_Mo_tick_115 (tgt := 137) rfl (fun hc => ?_) (fun hc => ?_)
    · replace hF := hF.1 hc
      obtain ⟨x55, ex55⟩ : ∃ z : Int32, z = x1 + (1 : Int32) := ⟨_, rfl⟩
      replace hF := hF x55 ex55
      refine lv_iinc hx hb d_Mo_tick_137 hl (k := 1) rfl (v := x55) (by rw [ki_1, ex55]) (by decide) (lv' := [(1, .int x55), (0, .ref (Bm + v0))]) rfl (fun ls hl => ?_)
      refine lv_goto hx hb d_Mo_tick_140 (tgt := 7) rfl ?_
      exact hK7 v0 x55 σ _ _ _ h_v0 hH hT hS (lv_sub hl [1, 0] rfl) hF
    · replace hF := hF.2 hc
      refine lv_aload_n hx hb d_Mo_tick_118 rfl (lv_at hl 0 rfl) ?_
      refine rs_getR C hH hT h_v0 fk_11_5 tw_904 d_Mo_tick_119 (fun h55 => ?_)
      refine lv_iload_n hx hb d_Mo_tick_122 rfl (lv_at hl 1 rfl) ?_
      refine lv_aload_n hx hb d_Mo_tick_123 rfl (lv_at hl 0 rfl) ?_
      refine rs_getR C hH hT h_v0 fk_11_6 tw_905 d_Mo_tick_124 (fun h56 => ?_)
      refine lv_iload_n hx hb d_Mo_tick_127 rfl (lv_at hl 1 rfl) ?_
      obtain ⟨g57, hF⟩ := hF
      refine rs_iald C hH h56 g57 d_Mo_tick_128 ?_
      refine lv_iconst hx hb d_Mo_tick_129 ki_3 ?_
      refine lv_idiv hx hb d_Mo_tick_130 (by decide) ?_
      obtain ⟨g58, hF⟩ := hF
      refine rs_iast C hH hT hS h55 g58 d_Mo_tick_131 (fun σ59 H locs eσ59 hH hT hS => ?_)
      replace hF := hF σ59 eσ59
      refine lv_aload_n hx hb d_Mo_tick_132 rfl (lv_at hl 0 rfl) ?_
      refine lv_iload_n hx hb d_Mo_tick_133 rfl (lv_at hl 1 rfl) ?_
      refine rs_cv (rs_runV C hH hT hl (J_Mo_keepAlive l h_v0 hF) rc_Mo_keepAlive tw_1192 tw_1194 ts_62 h_v0 ⟨rfl, by decide, by decide⟩ rfl ⟨⟨rfl, rfl⟩, by decide, by decide, by decide⟩ (Nat.le_of_ble_eq_true rfl) rfl d_Mo_tick_134) hS (fun σ60 H locs hH hT hS hF => ?_)
      obtain ⟨x61, ex61⟩ : ∃ z : Int32, z = x1 + (1 : Int32) := ⟨_, rfl⟩
      replace hF := hF x61 ex61
      refine lv_iinc hx hb d_Mo_tick_137 hl (k := 1) rfl (v := x61) (by rw [ki_1, ex61]) (by decide) (lv' := [(1, .int x61), (0, .ref (Bm + v0))]) rfl (fun ls hl => ?_)
      refine lv_goto hx hb d_Mo_tick_140 (tgt := 7) rfl ?_
      exact hK7 v0 x61 σ60 _ _ _ h_v0 hH hT hS (lv_sub hl [1, 0] rfl) hF
set_option maxRecDepth 20000 in
theorem JB_Mo_tick_45 {p : Program} {l : Launch} {e : Env} {s : State} {m : MethodId} {args : Array Value} {below : List Frame} {meth : Method} {c : Code} {G : rs_G} {Bm : Nat} {S : rs_Shp} {K7 : Nat → Int32 → rs_Mem → Prop} {Q : Int32 → rs_Mem → Prop} (C : rs_C "RouteSpeakerModel" prog_12_method_30_code 3 (some .int) G p s m meth c args) (hK7 : ∀ (v0 : Nat) (x1 : Int32) (σ : rs_Mem) (H : Heap) (locs : List Loc) (ls : Array Slot), rs_Ok S 11 v0 → rs_H G Bm S σ H → rs_T S σ → va_S (rs_A Bm) s.heap H locs → lv_has ls 3 [(0, .ref (Bm + v0)), (1, .int x1)] → K7 v0 x1 σ → W p l e { frames := 9, cells := 0, slots := 0, locals := 208 } s m args below meth c H locs 0 0 (MQ below (rs_Qi G Bm S Q) args s 0 0 (rs_A Bm)) (F0 m 7 ls [])) (v0 : Nat) (x1 : Int32) (y0 : Int32) (σ : rs_Mem) (H : Heap) (locs : List Loc) (ls : Array Slot) (h_v0 : rs_Ok S 11 v0) (hH : rs_H G Bm S σ H) (hT : rs_T S σ) (hS : va_S (rs_A Bm) s.heap H locs) (hl : lv_has ls 3 [(0, .ref (Bm + v0)), (1, .int x1)]) (hF : B_Mo_tick_45 S.2.2 K7 Q v0 x1 y0 σ) :
    W p l e { frames := 9, cells := 0, slots := 0, locals := 208 } s m args below meth c H locs 0 0 (MQ below (rs_Qi G Bm S Q) args s 0 0 (rs_A Bm)) (F0 m 45 ls [.int y0]) := by
  have hx := C.1
  have hb := C.2.1
  unfold B_Mo_tick_45 at hF
  refine lv_istore_n hx hb d_Mo_tick_45 rfl hl (by decide) (lv' := [(2, .int y0), (0, .ref (Bm + v0)), (1, .int x1)]) rfl (fun ls hl => ?_)
  refine lv_iload_n hx hb d_Mo_tick_46 rfl (lv_at hl 0 rfl) ?_
  refine lv_if_eq hx hb d_Mo_tick_47 (tgt := 137) rfl (fun hc => ?_) (fun hc => ?_)
  · replace hF := hF.1 hc
    obtain ⟨x51, ex51⟩ : ∃ z : Int32, z = x1 + (1 : Int32) := ⟨_, rfl⟩
    replace hF := hF x51 ex51
    refine lv_iinc hx hb d_Mo_tick_137 hl (k := 2) rfl (v := x51) (by rw [ki_1, ex51]) (by decide) (lv' := [(1, .int x51), (2, .int y0), (0, .ref (Bm + v0))]) rfl (fun ls hl => ?_)
    refine lv_goto hx hb d_Mo_tick_140 (tgt := 7) rfl ?_
    exact hK7 v0 x51 σ _ _ _ h_v0 hH hT hS (lv_sub hl [2, 0] rfl) hF
  · replace hF := hF.2 hc
    refine lv_aload_n hx hb d_Mo_tick_50 rfl (lv_at hl 1 rfl) ?_
    refine rs_getR C hH hT h_v0 fk_11_4 tw_903 d_Mo_tick_51 (fun h51 => ?_)
    refine lv_iload_n hx hb d_Mo_tick_54 rfl (lv_at hl 2 rfl) ?_
    refine lv_dup2_11 hx hb d_Mo_tick_55 rfl rfl ?_
    obtain ⟨g52, hF⟩ := hF
    refine rs_iald C hH h51 g52 d_Mo_tick_56 ?_
    refine lv_iconst hx hb d_Mo_tick_57 ki_1 ?_
    refine lv_isub hx hb d_Mo_tick_58 ?_
    obtain ⟨g53, hF⟩ := hF
    refine rs_iast C hH hT hS h51 g53 d_Mo_tick_59 (fun σ54 H locs eσ54 hH hT hS => ?_)
    replace hF := hF σ54 eσ54
    refine lv_aload_n hx hb d_Mo_tick_60 rfl (lv_at hl 1 rfl) ?_
    refine rs_getR C hH hT h_v0 fk_11_4 tw_903 d_Mo_tick_61 (fun h55 => ?_)
    refine lv_iload_n hx hb d_Mo_tick_64 rfl (lv_at hl 2 rfl) ?_
    obtain ⟨g56, hF⟩ := hF
    refine rs_iald C hH h55 g56 d_Mo_tick_65 ?_
    refine lv_if_ne hx hb d_Mo_tick_66 (tgt := 79) rfl (fun hc => ?_) (fun hc => ?_)
    · replace hF := hF.1 hc
      refine lv_aload_n hx hb d_Mo_tick_79 rfl (lv_at hl 1 rfl) ?_
      refine rs_getR C hH hT h_v0 fk_11_3 tw_902 d_Mo_tick_80 (fun h57 => ?_)
      refine lv_iload_n hx hb d_Mo_tick_83 rfl (lv_at hl 2 rfl) ?_
      obtain ⟨g58, hF⟩ := hF
      refine rs_iald C hH h57 g58 d_Mo_tick_84 ?_
      refine lv_iconst hx hb d_Mo_tick_85 ki_3 ?_
      refine lv_icmp_ne hx hb d_Mo_tick_86 (tgt := 99) rfl (fun hc => ?_) (fun hc => ?_)
      · replace hF := hF.1 hc
        exact JB_Mo_tick_99 C hK7 v0 x1 σ54 _ _ _ h_v0 hH hT hS (lv_sub hl [1, 2] rfl) hF
      · replace hF := hF.2 hc
        refine lv_aload_n hx hb d_Mo_tick_89 rfl (lv_at hl 1 rfl) ?_
        refine rs_getR C hH hT h_v0 fk_11_5 tw_904 d_Mo_tick_90 (fun h59 => ?_)
        refine lv_iload_n hx hb d_Mo_tick_93 rfl (lv_at hl 2 rfl) ?_
        refine lv_dup2_11 hx hb d_Mo_tick_94 rfl rfl ?_
        obtain ⟨g60, hF⟩ := hF
        refine rs_iald C hH h59 g60 d_Mo_tick_95 ?_
        refine lv_iconst hx hb d_Mo_tick_96 ki_1 ?_
        refine lv_isub hx hb d_Mo_tick_97 ?_
        obtain ⟨g61, hF⟩ := hF
        refine rs_iast C hH hT hS h59 g61 d_Mo_tick_98 (fun σ62 H locs eσ62 hH hT hS => ?_)
        replace hF := hF σ62 eσ62
        exact JB_Mo_tick_99 C hK7 v0 x1 σ62 _ _ _ h_v0 hH hT hS (lv_sub hl [1, 2] rfl) hF
    · replace hF := hF.2 hc
      refine lv_aload_n hx hb d_Mo_tick_69 rfl (lv_at hl 1 rfl) ?_
      refine lv_iload_n hx hb d_Mo_tick_70 rfl (lv_at hl 2 rfl) ?_
      refine lv_iconst hx hb d_Mo_tick_71 ki_4 ?_
      refine lv_iconst hx hb d_Mo_tick_72 ki_0 ?_
      refine rs_cv (rs_runV C hH hT hl (J_Mo_end l h_v0 hF) rc_Mo_end tw_1171 tw_1173 ts_58 h_v0 ⟨rfl, by decide, by decide⟩ rfl ⟨⟨rfl, rfl⟩, by decide, by decide, by decide⟩ (Nat.le_of_ble_eq_true rfl) rfl d_Mo_tick_73) hS (fun σ57 H locs hH hT hS hF => ?_)
      refine lv_goto hx hb d_Mo_tick_76 (tgt := 99) rfl ?_
      exact JB_Mo_tick_99 C hK7 v0 x1 σ57 _ _ _ h_v0 hH hT hS (lv_sub hl [1, 2] rfl) hF
set_option maxRecDepth 20000 in
theorem JB_Mo_tick_40 {p : Program} {l : Launch} {e : Env} {s : State} {m : MethodId} {args : Array Value} {below : List Frame} {meth : Method} {c : Code} {G : rs_G} {Bm : Nat} {S : rs_Shp} {K7 : Nat → Int32 → rs_Mem → Prop} {Q : Int32 → rs_Mem → Prop} (C : rs_C "RouteSpeakerModel" prog_12_method_30_code 3 (some .int) G p s m meth c args) (hK7 : ∀ (v0 : Nat) (x1 : Int32) (σ : rs_Mem) (H : Heap) (locs : List Loc) (ls : Array Slot), rs_Ok S 11 v0 → rs_H G Bm S σ H → rs_T S σ → va_S (rs_A Bm) s.heap H locs → lv_has ls 3 [(0, .ref (Bm + v0)), (1, .int x1)] → K7 v0 x1 σ → W p l e { frames := 9, cells := 0, slots := 0, locals := 208 } s m args below meth c H locs 0 0 (MQ below (rs_Qi G Bm S Q) args s 0 0 (rs_A Bm)) (F0 m 7 ls [])) (v0 : Nat) (x1 : Int32) (σ : rs_Mem) (H : Heap) (locs : List Loc) (ls : Array Slot) (h_v0 : rs_Ok S 11 v0) (hH : rs_H G Bm S σ H) (hT : rs_T S σ) (hS : va_S (rs_A Bm) s.heap H locs) (hl : lv_has ls 3 [(0, .ref (Bm + v0)), (1, .int x1)]) (hF : B_Mo_tick_40 S.2.2 K7 Q v0 x1 σ) :
    W p l e { frames := 9, cells := 0, slots := 0, locals := 208 } s m args below meth c H locs 0 0 (MQ below (rs_Qi G Bm S Q) args s 0 0 (rs_A Bm)) (F0 m 40 ls []) := by
  have hx := C.1
  have hb := C.2.1
  unfold B_Mo_tick_40 at hF
  refine lv_iconst hx hb d_Mo_tick_40 ki_1 ?_
  refine lv_goto hx hb d_Mo_tick_41 (tgt := 45) rfl ?_
  exact JB_Mo_tick_45 C hK7 v0 x1 (1 : Int32) σ _ _ _ h_v0 hH hT hS (lv_sub hl [0, 1] rfl) hF
set_option maxRecDepth 20000 in
theorem JB_Mo_tick_198 {p : Program} {l : Launch} {e : Env} {s : State} {m : MethodId} {args : Array Value} {below : List Frame} {meth : Method} {c : Code} {G : rs_G} {Bm : Nat} {S : rs_Shp} {K145 : Nat → Int32 → rs_Mem → Prop} {Q : Int32 → rs_Mem → Prop} (C : rs_C "RouteSpeakerModel" prog_12_method_30_code 3 (some .int) G p s m meth c args) (hK145 : ∀ (v0 : Nat) (x1 : Int32) (σ : rs_Mem) (H : Heap) (locs : List Loc) (ls : Array Slot), rs_Ok S 11 v0 → rs_H G Bm S σ H → rs_T S σ → va_S (rs_A Bm) s.heap H locs → lv_has ls 3 [(0, .ref (Bm + v0)), (1, .int x1)] → K145 v0 x1 σ → W p l e { frames := 9, cells := 0, slots := 0, locals := 208 } s m args below meth c H locs 0 0 (MQ below (rs_Qi G Bm S Q) args s 0 0 (rs_A Bm)) (F0 m 145 ls [])) (v0 : Nat) (x1 : Int32) (w0 : Nat) (y1 : Int32) (σ : rs_Mem) (H : Heap) (locs : List Loc) (ls : Array Slot) (h_v0 : rs_Ok S 11 v0) (h_w0 : rs_Ok S 21 w0) (hH : rs_H G Bm S σ H) (hT : rs_T S σ) (hS : va_S (rs_A Bm) s.heap H locs) (hl : lv_has ls 3 [(0, .ref (Bm + v0)), (1, .int x1)]) (hF : B_Mo_tick_198 S.2.2 K145 Q v0 x1 w0 y1 σ) :
    W p l e { frames := 9, cells := 0, slots := 0, locals := 208 } s m args below meth c H locs 0 0 (MQ below (rs_Qi G Bm S Q) args s 0 0 (rs_A Bm)) (F0 m 198 ls [.int y1, .ref (Bm + w0)]) := by
  have hx := C.1
  have hb := C.2.1
  unfold B_Mo_tick_198 at hF
  refine lv_iconst hx hb d_Mo_tick_198 ki_0 ?_
  obtain ⟨g51, hF⟩ := hF
  refine rs_zast C hH hT hS (by decide) h_w0 g51 d_Mo_tick_199 (fun σ52 H locs eσ52 hH hT hS => ?_)
  replace hF := hF σ52 eσ52
  obtain ⟨x53, ex53⟩ : ∃ z : Int32, z = x1 + (1 : Int32) := ⟨_, rfl⟩
  replace hF := hF x53 ex53
  refine lv_iinc hx hb d_Mo_tick_200 hl (k := 1) rfl (v := x53) (by rw [ki_1, ex53]) (by decide) (lv' := [(1, .int x53), (0, .ref (Bm + v0))]) rfl (fun ls hl => ?_)
  refine lv_goto hx hb d_Mo_tick_203 (tgt := 145) rfl ?_
  exact hK145 v0 x53 σ52 _ _ _ h_v0 hH hT hS (lv_sub hl [1, 0] rfl) hF
set_option maxRecDepth 20000 in
theorem JB_Mo_tick_235 {p : Program} {l : Launch} {e : Env} {s : State} {m : MethodId} {args : Array Value} {below : List Frame} {meth : Method} {c : Code} {G : rs_G} {Bm : Nat} {S : rs_Shp} {K214 : Nat → Int32 → Int32 → rs_Mem → Prop} {Q : Int32 → rs_Mem → Prop} (C : rs_C "RouteSpeakerModel" prog_12_method_30_code 3 (some .int) G p s m meth c args) (hK214 : ∀ (v0 : Nat) (x1 : Int32) (x2 : Int32) (σ : rs_Mem) (H : Heap) (locs : List Loc) (ls : Array Slot), rs_Ok S 11 v0 → rs_H G Bm S σ H → rs_T S σ → va_S (rs_A Bm) s.heap H locs → lv_has ls 3 [(0, .ref (Bm + v0)), (1, .int x1), (2, .int x2)] → K214 v0 x1 x2 σ → W p l e { frames := 9, cells := 0, slots := 0, locals := 208 } s m args below meth c H locs 0 0 (MQ below (rs_Qi G Bm S Q) args s 0 0 (rs_A Bm)) (F0 m 214 ls [])) (v0 : Nat) (x2 : Int32) (y0 : Int32) (y1 : Int32) (σ : rs_Mem) (H : Heap) (locs : List Loc) (ls : Array Slot) (h_v0 : rs_Ok S 11 v0) (hH : rs_H G Bm S σ H) (hT : rs_T S σ) (hS : va_S (rs_A Bm) s.heap H locs) (hl : lv_has ls 3 [(0, .ref (Bm + v0)), (2, .int x2)]) (hF : B_Mo_tick_235 S.2.2 K214 Q v0 x2 y0 y1 σ) :
    W p l e { frames := 9, cells := 0, slots := 0, locals := 208 } s m args below meth c H locs 0 0 (MQ below (rs_Qi G Bm S Q) args s 0 0 (rs_A Bm)) (F0 m 235 ls [.int y1, .int y0]) := by
  have hx := C.1
  have hb := C.2.1
  unfold B_Mo_tick_235 at hF
  refine lv_iadd hx hb d_Mo_tick_235 ?_
  refine lv_topi (fun x51 ex51 => ?_)
  replace hF := hF x51 ex51
  refine lv_istore_n hx hb d_Mo_tick_236 rfl hl (by decide) (lv' := [(1, .int x51), (0, .ref (Bm + v0)), (2, .int x2)]) rfl (fun ls hl => ?_)
  obtain ⟨x52, ex52⟩ : ∃ z : Int32, z = x2 + (1 : Int32) := ⟨_, rfl⟩
  replace hF := hF x52 ex52
  refine lv_iinc hx hb d_Mo_tick_237 hl (k := 2) rfl (v := x52) (by rw [ki_1, ex52]) (by decide) (lv' := [(2, .int x52), (1, .int x51), (0, .ref (Bm + v0))]) rfl (fun ls hl => ?_)
  refine lv_goto hx hb d_Mo_tick_240 (tgt := 214) rfl ?_
  exact hK214 v0 x51 x52 σ _ _ _ h_v0 hH hT hS (lv_sub hl [2, 1, 0] rfl) hF
set_option maxRecDepth 20000 in
theorem JL_Mo_tick_214 {p : Program} {l : Launch} {e : Env} {s : State} {m : MethodId} {args : Array Value} {below : List Frame} {meth : Method} {c : Code} {G : rs_G} {Bm : Nat} {S : rs_Shp} {Q : Int32 → rs_Mem → Prop} (C : rs_C "RouteSpeakerModel" prog_12_method_30_code 3 (some .int) G p s m meth c args) : ∀ n : Nat, ∀ (v0 : Nat) (x1 : Int32) (x2 : Int32) (σ : rs_Mem) (H : Heap) (locs : List Loc) (ls : Array Slot), rs_Ok S 11 v0 → rs_H G Bm S σ H → rs_T S σ → va_S (rs_A Bm) s.heap H locs → lv_has ls 3 [(0, .ref (Bm + v0)), (1, .int x1), (2, .int x2)] → (L_Mo_tick_214 S.2.2 Q n) v0 x1 x2 σ → W p l e { frames := 9, cells := 0, slots := 0, locals := 208 } s m args below meth c H locs 0 0 (MQ below (rs_Qi G Bm S Q) args s 0 0 (rs_A Bm)) (F0 m 214 ls []) := by
  have hx := C.1
  have hb := C.2.1
  intro n
  induction n with
  | zero => intros; rename_i hF; exact hF.elim
  | succ n hK214 =>
    intro v0 x1 x2 σ H locs ls h_v0 hH hT hS hl hF
    replace hF : G_Mo_tick_214 S.2.2 Q (L_Mo_tick_214 S.2.2 Q n) v0 x1 x2 σ := hF
    unfold G_Mo_tick_214 at hF
    refine lv_iload_n hx hb d_Mo_tick_214 rfl (lv_at hl 2 rfl) ?_
    refine lv_iconst hx hb d_Mo_tick_215 ki_4 ?_
    refine lv_icmp_ge hx hb d_Mo_tick_216 (tgt := 243) rfl (fun hc => ?_) (fun hc => ?_)
    · replace hF := hF.1 hc
      refine lv_iload_n hx hb d_Mo_tick_243 rfl (lv_at hl 1 rfl) ?_
      exact rs_iret C hH hT hS hF d_Mo_tick_244
    · replace hF := hF.2 hc
      refine lv_iload_n hx hb d_Mo_tick_219 rfl (lv_at hl 1 rfl) ?_
      refine lv_aload_n hx hb d_Mo_tick_220 rfl (lv_at hl 0 rfl) ?_
      refine rs_getR C hH hT h_v0 fk_11_3 tw_902 d_Mo_tick_221 (fun h51 => ?_)
      refine lv_iload_n hx hb d_Mo_tick_224 rfl (lv_at hl 2 rfl) ?_
      obtain ⟨g52, hF⟩ := hF
      refine rs_iald C hH h51 g52 d_Mo_tick_225 ?_
      refine lv_iconst hx hb d_Mo_tick_226 ki_3 ?_
      refine lv_icmp_ne hx hb d_Mo_tick_227 (tgt := 234) rfl (fun hc => ?_) (fun hc => ?_)
      · replace hF := hF.1 hc
        refine lv_iconst hx hb d_Mo_tick_234 ki_0 ?_
        exact JB_Mo_tick_235 C hK214 v0 x2 x1 (0 : Int32) σ _ _ _ h_v0 hH hT hS (lv_sub hl [0, 2] rfl) hF
      · replace hF := hF.2 hc
        refine lv_iconst hx hb d_Mo_tick_230 ki_1 ?_
        refine lv_goto hx hb d_Mo_tick_231 (tgt := 235) rfl ?_
        exact JB_Mo_tick_235 C hK214 v0 x2 x1 (1 : Int32) σ _ _ _ h_v0 hH hT hS (lv_sub hl [0, 2] rfl) hF
set_option maxRecDepth 20000 in
theorem JL_Mo_tick_145 {p : Program} {l : Launch} {e : Env} {s : State} {m : MethodId} {args : Array Value} {below : List Frame} {meth : Method} {c : Code} {G : rs_G} {Bm : Nat} {S : rs_Shp} {Q : Int32 → rs_Mem → Prop} (C : rs_C "RouteSpeakerModel" prog_12_method_30_code 3 (some .int) G p s m meth c args) : ∀ n : Nat, ∀ (v0 : Nat) (x1 : Int32) (σ : rs_Mem) (H : Heap) (locs : List Loc) (ls : Array Slot), rs_Ok S 11 v0 → rs_H G Bm S σ H → rs_T S σ → va_S (rs_A Bm) s.heap H locs → lv_has ls 3 [(0, .ref (Bm + v0)), (1, .int x1)] → (L_Mo_tick_145 S.2.2 Q n) v0 x1 σ → W p l e { frames := 9, cells := 0, slots := 0, locals := 208 } s m args below meth c H locs 0 0 (MQ below (rs_Qi G Bm S Q) args s 0 0 (rs_A Bm)) (F0 m 145 ls []) := by
  have hx := C.1
  have hb := C.2.1
  intro n
  induction n with
  | zero => intros; rename_i hF; exact hF.elim
  | succ n hK145 =>
    intro v0 x1 σ H locs ls h_v0 hH hT hS hl hF
    replace hF : G_Mo_tick_145 S.2.2 Q (L_Mo_tick_145 S.2.2 Q n) v0 x1 σ := hF
    unfold G_Mo_tick_145 at hF
    refine lv_iload_n hx hb d_Mo_tick_145 rfl (lv_at hl 1 rfl) ?_
    refine lv_bipush hx hb d_Mo_tick_146 kb_48 ?_
    refine lv_icmp_ge hx hb d_Mo_tick_148 (tgt := 206) rfl (fun hc => ?_) (fun hc => ?_)
    · replace hF := hF.1 hc
      refine lv_aload_n hx hb d_Mo_tick_206 rfl (lv_at hl 0 rfl) ?_
      refine rs_cv (rs_runV C hH hT hl (J_Mo_tell l h_v0 hF) rc_Mo_tell tw_1037 tw_1039 ts_34 h_v0 ⟨rfl, by decide, by decide⟩ rfl ⟨⟨rfl, rfl⟩, by decide, by decide, by decide⟩ (Nat.le_of_ble_eq_true rfl) rfl d_Mo_tick_207) hS (fun σ51 H locs hH hT hS hF => ?_)
      refine lv_iconst hx hb d_Mo_tick_210 ki_0 ?_
      refine lv_istore_n hx hb d_Mo_tick_211 rfl hl (by decide) (lv' := [(1, .int (0 : Int32)), (0, .ref (Bm + v0))]) rfl (fun ls hl => ?_)
      refine lv_iconst hx hb d_Mo_tick_212 ki_0 ?_
      refine lv_istore_n hx hb d_Mo_tick_213 rfl hl (by decide) (lv' := [(2, .int (0 : Int32)), (1, .int (0 : Int32)), (0, .ref (Bm + v0))]) rfl (fun ls hl => ?_)
      obtain ⟨n, hF⟩ := hF
      exact JL_Mo_tick_214 C n v0 (0 : Int32) (0 : Int32) σ51 _ _ _ h_v0 hH hT hS (lv_sub hl [2, 1, 0] rfl) hF
    · replace hF := hF.2 hc
      refine lv_aload_n hx hb d_Mo_tick_151 rfl (lv_at hl 0 rfl) ?_
      refine rs_getR C hH hT h_v0 fk_11_34 tw_933 d_Mo_tick_152 (fun h51 => ?_)
      refine lv_iload_n hx hb d_Mo_tick_155 rfl (lv_at hl 1 rfl) ?_
      refine lv_aload_n hx hb d_Mo_tick_156 rfl (lv_at hl 0 rfl) ?_
      refine rs_getR C hH hT h_v0 fk_11_34 tw_933 d_Mo_tick_157 (fun h52 => ?_)
      refine lv_iload_n hx hb d_Mo_tick_160 rfl (lv_at hl 1 rfl) ?_
      obtain ⟨g53, hF⟩ := hF
      refine rs_dald C hH h52 g53 d_Mo_tick_161 ?_
      refine lv_ldc2d hx hb C.2.2.2.2.1 (C.2.2.2.2.2.1 _ tw_1258) d_Mo_tick_162 ?_
      obtain ⟨g54, hF⟩ := hF
      refine lv_dmul hx hb d_Mo_tick_165 g54 ?_
      obtain ⟨g55, hF⟩ := hF
      refine rs_dast C hH hT hS h51 g55 d_Mo_tick_166 (fun σ56 H locs eσ56 hH hT hS => ?_)
      replace hF := hF σ56 eσ56
      refine lv_aload_n hx hb d_Mo_tick_167 rfl (lv_at hl 0 rfl) ?_
      refine rs_getR C hH hT h_v0 fk_11_35 tw_934 d_Mo_tick_168 (fun h57 => ?_)
      refine lv_iload_n hx hb d_Mo_tick_171 rfl (lv_at hl 1 rfl) ?_
      refine lv_aload_n hx hb d_Mo_tick_172 rfl (lv_at hl 0 rfl) ?_
      refine rs_getR C hH hT h_v0 fk_11_35 tw_934 d_Mo_tick_173 (fun h58 => ?_)
      refine lv_iload_n hx hb d_Mo_tick_176 rfl (lv_at hl 1 rfl) ?_
      obtain ⟨g59, hF⟩ := hF
      refine rs_zald C hH h58 g59 d_Mo_tick_177 ?_
      refine lv_if_eq hx hb d_Mo_tick_178 (tgt := 198) rfl (fun hc => ?_) (fun hc => ?_)
      · replace hF := hF.1 hc
        exact JB_Mo_tick_198 C hK145 v0 x1 (rs_R σ56 v0 35) x1 σ56 _ _ _ h_v0 h57 hH hT hS (lv_sub hl [0, 1] rfl) hF
      · replace hF := hF.2 hc
        refine lv_aload_n hx hb d_Mo_tick_181 rfl (lv_at hl 0 rfl) ?_
        refine rs_getR C hH hT h_v0 fk_11_34 tw_933 d_Mo_tick_182 (fun h60 => ?_)
        refine lv_iload_n hx hb d_Mo_tick_185 rfl (lv_at hl 1 rfl) ?_
        obtain ⟨g61, hF⟩ := hF
        refine rs_dald C hH h60 g61 d_Mo_tick_186 ?_
        refine lv_ldc2d hx hb C.2.2.2.2.1 (C.2.2.2.2.2.1 _ tw_1259) d_Mo_tick_187 ?_
        refine lv_dcmp hx hb d_Mo_tick_190 ?_
        refine lv_if_lt hx hb d_Mo_tick_191 (tgt := 198) rfl (fun hc => ?_) (fun hc => ?_)
        · replace hF := hF.1 hc
          exact JB_Mo_tick_198 C hK145 v0 x1 (rs_R σ56 v0 35) x1 σ56 _ _ _ h_v0 h57 hH hT hS (lv_sub hl [0, 1] rfl) hF
        · replace hF := hF.2 hc
          refine lv_iconst hx hb d_Mo_tick_194 ki_1 ?_
          refine lv_goto hx hb d_Mo_tick_195 (tgt := 199) rfl ?_
          obtain ⟨g62, hF⟩ := hF
          refine rs_zast C hH hT hS (by decide) h57 g62 d_Mo_tick_199 (fun σ63 H locs eσ63 hH hT hS => ?_)
          replace hF := hF σ63 eσ63
          obtain ⟨x64, ex64⟩ : ∃ z : Int32, z = x1 + (1 : Int32) := ⟨_, rfl⟩
          replace hF := hF x64 ex64
          refine lv_iinc hx hb d_Mo_tick_200 hl (k := 1) rfl (v := x64) (by rw [ki_1, ex64]) (by decide) (lv' := [(1, .int x64), (0, .ref (Bm + v0))]) rfl (fun ls hl => ?_)
          refine lv_goto hx hb d_Mo_tick_203 (tgt := 145) rfl ?_
          exact hK145 v0 x64 σ63 _ _ _ h_v0 hH hT hS (lv_sub hl [1, 0] rfl) hF
set_option maxRecDepth 20000 in
theorem JB_Mo_tick_44 {p : Program} {l : Launch} {e : Env} {s : State} {m : MethodId} {args : Array Value} {below : List Frame} {meth : Method} {c : Code} {G : rs_G} {Bm : Nat} {S : rs_Shp} {K7 : Nat → Int32 → rs_Mem → Prop} {Q : Int32 → rs_Mem → Prop} (C : rs_C "RouteSpeakerModel" prog_12_method_30_code 3 (some .int) G p s m meth c args) (hK7 : ∀ (v0 : Nat) (x1 : Int32) (σ : rs_Mem) (H : Heap) (locs : List Loc) (ls : Array Slot), rs_Ok S 11 v0 → rs_H G Bm S σ H → rs_T S σ → va_S (rs_A Bm) s.heap H locs → lv_has ls 3 [(0, .ref (Bm + v0)), (1, .int x1)] → K7 v0 x1 σ → W p l e { frames := 9, cells := 0, slots := 0, locals := 208 } s m args below meth c H locs 0 0 (MQ below (rs_Qi G Bm S Q) args s 0 0 (rs_A Bm)) (F0 m 7 ls [])) (v0 : Nat) (x1 : Int32) (σ : rs_Mem) (H : Heap) (locs : List Loc) (ls : Array Slot) (h_v0 : rs_Ok S 11 v0) (hH : rs_H G Bm S σ H) (hT : rs_T S σ) (hS : va_S (rs_A Bm) s.heap H locs) (hl : lv_has ls 3 [(0, .ref (Bm + v0)), (1, .int x1)]) (hF : B_Mo_tick_44 S.2.2 K7 Q v0 x1 σ) :
    W p l e { frames := 9, cells := 0, slots := 0, locals := 208 } s m args below meth c H locs 0 0 (MQ below (rs_Qi G Bm S Q) args s 0 0 (rs_A Bm)) (F0 m 44 ls []) := by
  have hx := C.1
  have hb := C.2.1
  unfold B_Mo_tick_44 at hF
  refine lv_iconst hx hb d_Mo_tick_44 ki_0 ?_
  exact JB_Mo_tick_45 C hK7 v0 x1 (0 : Int32) σ _ _ _ h_v0 hH hT hS (lv_sub hl [0, 1] rfl) hF
set_option maxRecDepth 20000 in
theorem JL_Mo_tick_7 {p : Program} {l : Launch} {e : Env} {s : State} {m : MethodId} {args : Array Value} {below : List Frame} {meth : Method} {c : Code} {G : rs_G} {Bm : Nat} {S : rs_Shp} {Q : Int32 → rs_Mem → Prop} (C : rs_C "RouteSpeakerModel" prog_12_method_30_code 3 (some .int) G p s m meth c args) : ∀ n : Nat, ∀ (v0 : Nat) (x1 : Int32) (σ : rs_Mem) (H : Heap) (locs : List Loc) (ls : Array Slot), rs_Ok S 11 v0 → rs_H G Bm S σ H → rs_T S σ → va_S (rs_A Bm) s.heap H locs → lv_has ls 3 [(0, .ref (Bm + v0)), (1, .int x1)] → (L_Mo_tick_7 S.2.2 Q n) v0 x1 σ → W p l e { frames := 9, cells := 0, slots := 0, locals := 208 } s m args below meth c H locs 0 0 (MQ below (rs_Qi G Bm S Q) args s 0 0 (rs_A Bm)) (F0 m 7 ls []) := by
  have hx := C.1
  have hb := C.2.1
  intro n
  induction n with
  | zero => intros; rename_i hF; exact hF.elim
  | succ n hK7 =>
    intro v0 x1 σ H locs ls h_v0 hH hT hS hl hF
    replace hF : G_Mo_tick_7 S.2.2 Q (L_Mo_tick_7 S.2.2 Q n) v0 x1 σ := hF
    unfold G_Mo_tick_7 at hF
    refine lv_iload_n hx hb d_Mo_tick_7 rfl (lv_at hl 1 rfl) ?_
    refine lv_iconst hx hb d_Mo_tick_8 ki_4 ?_
    refine lv_icmp_ge hx hb d_Mo_tick_9 (tgt := 143) rfl (fun hc => ?_) (fun hc => ?_)
    · replace hF := hF.1 hc
      refine lv_iconst hx hb d_Mo_tick_143 ki_0 ?_
      refine lv_istore_n hx hb d_Mo_tick_144 rfl hl (by decide) (lv' := [(1, .int (0 : Int32)), (0, .ref (Bm + v0))]) rfl (fun ls hl => ?_)
      obtain ⟨n, hF⟩ := hF
      exact JL_Mo_tick_145 C n v0 (0 : Int32) σ _ _ _ h_v0 hH hT hS (lv_sub hl [1, 0] rfl) hF
    · replace hF := hF.2 hc
      refine lv_aload_n hx hb d_Mo_tick_12 rfl (lv_at hl 0 rfl) ?_
      refine rs_getR C hH hT h_v0 fk_11_3 tw_902 d_Mo_tick_13 (fun h51 => ?_)
      refine lv_iload_n hx hb d_Mo_tick_16 rfl (lv_at hl 1 rfl) ?_
      obtain ⟨g52, hF⟩ := hF
      refine rs_iald C hH h51 g52 d_Mo_tick_17 ?_
      refine lv_iconst hx hb d_Mo_tick_18 ki_1 ?_
      refine lv_icmp_eq hx hb d_Mo_tick_19 (tgt := 40) rfl (fun hc => ?_) (fun hc => ?_)
      · replace hF := hF.1 hc
        exact JB_Mo_tick_40 C hK7 v0 x1 σ _ _ _ h_v0 hH hT hS (lv_sub hl [0, 1] rfl) hF
      · replace hF := hF.2 hc
        refine lv_aload_n hx hb d_Mo_tick_22 rfl (lv_at hl 0 rfl) ?_
        refine rs_getR C hH hT h_v0 fk_11_3 tw_902 d_Mo_tick_23 (fun h53 => ?_)
        refine lv_iload_n hx hb d_Mo_tick_26 rfl (lv_at hl 1 rfl) ?_
        obtain ⟨g54, hF⟩ := hF
        refine rs_iald C hH h53 g54 d_Mo_tick_27 ?_
        refine lv_if_eq hx hb d_Mo_tick_28 (tgt := 44) rfl (fun hc => ?_) (fun hc => ?_)
        · replace hF := hF.1 hc
          exact JB_Mo_tick_44 C hK7 v0 x1 σ _ _ _ h_v0 hH hT hS (lv_sub hl [0, 1] rfl) hF
        · replace hF := hF.2 hc
          refine lv_aload_n hx hb d_Mo_tick_31 rfl (lv_at hl 0 rfl) ?_
          refine rs_getR C hH hT h_v0 fk_11_6 tw_905 d_Mo_tick_32 (fun h55 => ?_)
          refine lv_iload_n hx hb d_Mo_tick_35 rfl (lv_at hl 1 rfl) ?_
          obtain ⟨g56, hF⟩ := hF
          refine rs_iald C hH h55 g56 d_Mo_tick_36 ?_
          refine lv_if_le hx hb d_Mo_tick_37 (tgt := 44) rfl (fun hc => ?_) (fun hc => ?_)
          · replace hF := hF.1 hc
            exact JB_Mo_tick_44 C hK7 v0 x1 σ _ _ _ h_v0 hH hT hS (lv_sub hl [0, 1] rfl) hF
          · replace hF := hF.2 hc
            exact JB_Mo_tick_40 C hK7 v0 x1 σ _ _ _ h_v0 hH hT hS (lv_sub hl [0, 1] rfl) hF
abbrev y_Mo_tick : MethodName := ({ cls := "RouteSpeakerModel", name := "tick", desc := "()I" } : Jvm.MethodName)
theorem rc_Mo_tick : rs_Cal y_Mo_tick prog_12_method_30_code 3 (some .int) 0 := ⟨tw_1257, tw_11, by decide, by decide, by decide +kernel⟩
set_option maxRecDepth 20000 in
theorem J_Mo_tick (l : Launch) {G : rs_G} {Bm : Nat} {S : rs_Shp} {v0 : Nat} {σ : rs_Mem} {Q : Int32 → rs_Mem → Prop} (h_v0 : rs_Ok S 11 v0) (hF : F_Mo_tick S.2.2 v0 σ Q) :
    Met l y_Mo_tick (rs_ws y_Mo_tick prog_12_method_30_code 3 (some .int)) { frames := 9, cells := 0, slots := 0, locals := 208 } (rs_P G Bm S σ [.ref (Bm + v0)]) (rs_Qi G Bm S Q) 0 0 (rs_A Bm) := by
  refine rs_met (own := "RouteSpeakerModel") (by decide) rfl (Nat.le_of_ble_eq_true rfl) (fun p e s m below meth c ls C hl hH hT hS => ?_)
  replace hl : lv_has ls 3 [(0, .ref (Bm + v0))] := hl
  have hx := C.1
  have hb := C.2.1
  unfold F_Mo_tick at hF
  refine lv_aload_n hx hb d_Mo_tick_0 rfl (lv_at hl 0 rfl) ?_
  refine lv_iconst hx hb d_Mo_tick_1 ki_0 ?_
  refine rs_putI C hH hT hS h_v0 fk_11_0 rfl tw_899 d_Mo_tick_2 (fun σ51 H locs eσ51 hH hT hS => ?_)
  replace hF := hF σ51 eσ51
  refine lv_iconst hx hb d_Mo_tick_5 ki_0 ?_
  refine lv_istore_n hx hb d_Mo_tick_6 rfl hl (by decide) (lv' := [(1, .int (0 : Int32)), (0, .ref (Bm + v0))]) rfl (fun ls hl => ?_)
  obtain ⟨n, hF⟩ := hF
  exact JL_Mo_tick_7 C n v0 (0 : Int32) σ51 _ _ _ h_v0 hH hT hS (lv_sub hl [1, 0] rfl) hF
/-! RouteSpeakerModel.take(I)I -/
theorem d_Mo_take_0 : decode prog_12_method_62_code 0 = .ok (.aload_n 0, 1) := by decide +kernel
theorem d_Mo_take_1 : decode prog_12_method_62_code 1 = .ok (.iload_n 1, 1) := by decide +kernel
theorem d_Mo_take_2 : decode prog_12_method_62_code 2 = .ok (.invokestatic 158, 3) := by decide +kernel
theorem d_Mo_take_5 : decode prog_12_method_62_code 5 = .ok (.ifCond .ne (7), 3) := by decide +kernel
theorem d_Mo_take_8 : decode prog_12_method_62_code 8 = .ok (.iconst 1, 1) := by decide +kernel
theorem d_Mo_take_9 : decode prog_12_method_62_code 9 = .ok (.goto (17), 3) := by decide +kernel
theorem d_Mo_take_12 : decode prog_12_method_62_code 12 = .ok (.aload_n 0, 1) := by decide +kernel
theorem d_Mo_take_13 : decode prog_12_method_62_code 13 = .ok (.getfield 61, 3) := by decide +kernel
theorem d_Mo_take_16 : decode prog_12_method_62_code 16 = .ok (.iload_n 1, 1) := by decide +kernel
theorem d_Mo_take_17 : decode prog_12_method_62_code 17 = .ok (.iaload, 1) := by decide +kernel
theorem d_Mo_take_18 : decode prog_12_method_62_code 18 = .ok (.ifCond .ne (7), 3) := by decide +kernel
theorem d_Mo_take_21 : decode prog_12_method_62_code 21 = .ok (.iconst 2, 1) := by decide +kernel
theorem d_Mo_take_22 : decode prog_12_method_62_code 22 = .ok (.goto (4), 3) := by decide +kernel
theorem d_Mo_take_25 : decode prog_12_method_62_code 25 = .ok (.iconst 0, 1) := by decide +kernel
theorem d_Mo_take_26 : decode prog_12_method_62_code 26 = .ok (.putfield 126, 3) := by decide +kernel
theorem d_Mo_take_29 : decode prog_12_method_62_code 29 = .ok (.aload_n 0, 1) := by decide +kernel
theorem d_Mo_take_30 : decode prog_12_method_62_code 30 = .ok (.getfield 126, 3) := by decide +kernel
theorem d_Mo_take_33 : decode prog_12_method_62_code 33 = .ok (.ifCond .eq (5), 3) := by decide +kernel
theorem d_Mo_take_36 : decode prog_12_method_62_code 36 = .ok (.iconst 0, 1) := by decide +kernel
theorem d_Mo_take_37 : decode prog_12_method_62_code 37 = .ok (.ireturn, 1) := by decide +kernel
theorem d_Mo_take_38 : decode prog_12_method_62_code 38 = .ok (.aload_n 0, 1) := by decide +kernel
theorem d_Mo_take_39 : decode prog_12_method_62_code 39 = .ok (.getfield 58, 3) := by decide +kernel
theorem d_Mo_take_42 : decode prog_12_method_62_code 42 = .ok (.sipush (200), 3) := by decide +kernel
theorem d_Mo_take_45 : decode prog_12_method_62_code 45 = .ok (.iload_n 1, 1) := by decide +kernel
theorem d_Mo_take_46 : decode prog_12_method_62_code 46 = .ok (.imul, 1) := by decide +kernel
theorem d_Mo_take_47 : decode prog_12_method_62_code 47 = .ok (.iaload, 1) := by decide +kernel
theorem d_Mo_take_48 : decode prog_12_method_62_code 48 = .ok (.istore_n 2, 1) := by decide +kernel
theorem d_Mo_take_49 : decode prog_12_method_62_code 49 = .ok (.aload_n 0, 1) := by decide +kernel
theorem d_Mo_take_50 : decode prog_12_method_62_code 50 = .ok (.getfield 61, 3) := by decide +kernel
theorem d_Mo_take_53 : decode prog_12_method_62_code 53 = .ok (.iload_n 1, 1) := by decide +kernel
theorem d_Mo_take_54 : decode prog_12_method_62_code 54 = .ok (.dup2, 1) := by decide +kernel
theorem d_Mo_take_55 : decode prog_12_method_62_code 55 = .ok (.iaload, 1) := by decide +kernel
theorem d_Mo_take_56 : decode prog_12_method_62_code 56 = .ok (.iconst 1, 1) := by decide +kernel
theorem d_Mo_take_57 : decode prog_12_method_62_code 57 = .ok (.isub, 1) := by decide +kernel
theorem d_Mo_take_58 : decode prog_12_method_62_code 58 = .ok (.iastore, 1) := by decide +kernel
theorem d_Mo_take_59 : decode prog_12_method_62_code 59 = .ok (.sipush (200), 3) := by decide +kernel
theorem d_Mo_take_62 : decode prog_12_method_62_code 62 = .ok (.iload_n 1, 1) := by decide +kernel
theorem d_Mo_take_63 : decode prog_12_method_62_code 63 = .ok (.imul, 1) := by decide +kernel
theorem d_Mo_take_64 : decode prog_12_method_62_code 64 = .ok (.istore_n 3, 1) := by decide +kernel
theorem d_Mo_take_65 : decode prog_12_method_62_code 65 = .ok (.iload_n 3, 1) := by decide +kernel
theorem d_Mo_take_66 : decode prog_12_method_62_code 66 = .ok (.sipush (200), 3) := by decide +kernel
theorem d_Mo_take_69 : decode prog_12_method_62_code 69 = .ok (.iload_n 1, 1) := by decide +kernel
theorem d_Mo_take_70 : decode prog_12_method_62_code 70 = .ok (.imul, 1) := by decide +kernel
theorem d_Mo_take_71 : decode prog_12_method_62_code 71 = .ok (.aload_n 0, 1) := by decide +kernel
theorem d_Mo_take_72 : decode prog_12_method_62_code 72 = .ok (.getfield 61, 3) := by decide +kernel
theorem d_Mo_take_75 : decode prog_12_method_62_code 75 = .ok (.iload_n 1, 1) := by decide +kernel
theorem d_Mo_take_76 : decode prog_12_method_62_code 76 = .ok (.iaload, 1) := by decide +kernel
theorem d_Mo_take_77 : decode prog_12_method_62_code 77 = .ok (.iadd, 1) := by decide +kernel
theorem d_Mo_take_78 : decode prog_12_method_62_code 78 = .ok (.if_icmp .ge (23), 3) := by decide +kernel
theorem d_Mo_take_81 : decode prog_12_method_62_code 81 = .ok (.aload_n 0, 1) := by decide +kernel
theorem d_Mo_take_82 : decode prog_12_method_62_code 82 = .ok (.getfield 58, 3) := by decide +kernel
theorem d_Mo_take_85 : decode prog_12_method_62_code 85 = .ok (.iload_n 3, 1) := by decide +kernel
theorem d_Mo_take_86 : decode prog_12_method_62_code 86 = .ok (.aload_n 0, 1) := by decide +kernel
theorem d_Mo_take_87 : decode prog_12_method_62_code 87 = .ok (.getfield 58, 3) := by decide +kernel
theorem d_Mo_take_90 : decode prog_12_method_62_code 90 = .ok (.iload_n 3, 1) := by decide +kernel
theorem d_Mo_take_91 : decode prog_12_method_62_code 91 = .ok (.iconst 1, 1) := by decide +kernel
theorem d_Mo_take_92 : decode prog_12_method_62_code 92 = .ok (.iadd, 1) := by decide +kernel
theorem d_Mo_take_93 : decode prog_12_method_62_code 93 = .ok (.iaload, 1) := by decide +kernel
theorem d_Mo_take_94 : decode prog_12_method_62_code 94 = .ok (.iastore, 1) := by decide +kernel
theorem d_Mo_take_95 : decode prog_12_method_62_code 95 = .ok (.iinc 3 (1), 3) := by decide +kernel
theorem d_Mo_take_98 : decode prog_12_method_62_code 98 = .ok (.goto (-33), 3) := by decide +kernel
theorem d_Mo_take_101 : decode prog_12_method_62_code 101 = .ok (.iload_n 2, 1) := by decide +kernel
theorem d_Mo_take_102 : decode prog_12_method_62_code 102 = .ok (.ireturn, 1) := by decide +kernel
def G_Mo_take_65 (N : Nat → Nat) (Q : Int32 → rs_Mem → Prop) (K65 : Nat → Int32 → Int32 → Int32 → rs_Mem → Prop) (v0 : Nat) (x1 : Int32) (x2 : Int32) (x3 : Int32) (σ : rs_Mem) : Prop :=
  (vp_in x1 (N (rs_R σ v0 18)) ∧ (((((200 : Int32) * x1) + (rs_I σ (rs_R σ v0 18) x1.toNatClampNeg)) ≤ x3 → (Q x2 σ)) ∧ (¬ ((((200 : Int32) * x1) + (rs_I σ (rs_R σ v0 18) x1.toNatClampNeg)) ≤ x3) → (vp_in (x3 + (1 : Int32)) (N (rs_R σ v0 17)) ∧ (vp_in x3 (N (rs_R σ v0 17)) ∧ ∀ σ57 : rs_Mem, σ57 = rs_sI σ (rs_R σ v0 17) x3.toNatClampNeg (rs_I σ (rs_R σ v0 17) (x3 + (1 : Int32)).toNatClampNeg) → (∀ x58 : Int32, x58 = x3 + (1 : Int32) → (K65 v0 x1 x2 x58 σ57)))))))
noncomputable def L_Mo_take_65 (N : Nat → Nat) (Q : Int32 → rs_Mem → Prop) (n : Nat) : Nat → Int32 → Int32 → Int32 → rs_Mem → Prop := Nat.rec (motive := fun _ => Nat → Int32 → Int32 → Int32 → rs_Mem → Prop) (fun _ _ _ _ _ => False) (fun _ K => G_Mo_take_65 N Q K) n
def B_Mo_take_26 (N : Nat → Nat) (Q : Int32 → rs_Mem → Prop) (v0 : Nat) (x1 : Int32) (w0 : Nat) (y1 : Int32) (σ : rs_Mem) : Prop :=
  (∀ σ51 : rs_Mem, σ51 = rs_sI σ w0 0 y1 → (((rs_I σ51 v0 0) = 0 → (vp_in ((200 : Int32) * x1) (N (rs_R σ51 v0 17)) ∧ (∀ x54 : Int32, x54 = (rs_I σ51 (rs_R σ51 v0 17) ((200 : Int32) * x1).toNatClampNeg) → (vp_in x1 (N (rs_R σ51 v0 18)) ∧ (vp_in x1 (N (rs_R σ51 v0 18)) ∧ ∀ σ58 : rs_Mem, σ58 = rs_sI σ51 (rs_R σ51 v0 18) x1.toNatClampNeg ((rs_I σ51 (rs_R σ51 v0 18) x1.toNatClampNeg) - (1 : Int32)) → (∀ x59 : Int32, x59 = ((200 : Int32) * x1) → (∃ n : Nat, L_Mo_take_65 N Q n v0 x1 x54 x59 σ58))))))) ∧ (¬ ((rs_I σ51 v0 0) = 0) → (Q (0 : Int32) σ51))))
def F_Mo_take (N : Nat → Nat) (v0 : Nat) (x1 : Int32) (σ : rs_Mem) (Q : Int32 → rs_Mem → Prop) : Prop :=
  (F_Mo_isPeer N x1 σ (fun x52 σ51 => ((¬ (x52 = 0) → (vp_in x1 (N (rs_R σ51 v0 18)) ∧ ((¬ ((rs_I σ51 (rs_R σ51 v0 18) x1.toNatClampNeg) = 0) → (B_Mo_take_26 N Q v0 x1 v0 (0 : Int32) σ51)) ∧ ((rs_I σ51 (rs_R σ51 v0 18) x1.toNatClampNeg) = 0 → (B_Mo_take_26 N Q v0 x1 v0 (2 : Int32) σ51))))) ∧ (x52 = 0 → (B_Mo_take_26 N Q v0 x1 v0 (1 : Int32) σ51)))))
set_option maxRecDepth 20000 in
theorem JL_Mo_take_65 {p : Program} {l : Launch} {e : Env} {s : State} {m : MethodId} {args : Array Value} {below : List Frame} {meth : Method} {c : Code} {G : rs_G} {Bm : Nat} {S : rs_Shp} {Q : Int32 → rs_Mem → Prop} (C : rs_C "RouteSpeakerModel" prog_12_method_62_code 4 (some .int) G p s m meth c args) : ∀ n : Nat, ∀ (v0 : Nat) (x1 : Int32) (x2 : Int32) (x3 : Int32) (σ : rs_Mem) (H : Heap) (locs : List Loc) (ls : Array Slot), rs_Ok S 11 v0 → rs_H G Bm S σ H → rs_T S σ → va_S (rs_A Bm) s.heap H locs → lv_has ls 4 [(0, .ref (Bm + v0)), (1, .int x1), (2, .int x2), (3, .int x3)] → (L_Mo_take_65 S.2.2 Q n) v0 x1 x2 x3 σ → W p l e { frames := 1, cells := 0, slots := 0, locals := 20 } s m args below meth c H locs 0 0 (MQ below (rs_Qi G Bm S Q) args s 0 0 (rs_A Bm)) (F0 m 65 ls []) := by
  have hx := C.1
  have hb := C.2.1
  intro n
  induction n with
  | zero => intros; rename_i hF; exact hF.elim
  | succ n hK65 =>
    intro v0 x1 x2 x3 σ H locs ls h_v0 hH hT hS hl hF
    replace hF : G_Mo_take_65 S.2.2 Q (L_Mo_take_65 S.2.2 Q n) v0 x1 x2 x3 σ := hF
    unfold G_Mo_take_65 at hF
    refine lv_iload_n hx hb d_Mo_take_65 rfl (lv_at hl 3 rfl) ?_
    refine lv_sipush hx hb d_Mo_take_66 ks_200 ?_
    refine lv_iload_n hx hb d_Mo_take_69 rfl (lv_at hl 1 rfl) ?_
    refine lv_imul hx hb d_Mo_take_70 ?_
    refine lv_aload_n hx hb d_Mo_take_71 rfl (lv_at hl 0 rfl) ?_
    refine rs_getR C hH hT h_v0 fk_11_18 tw_917 d_Mo_take_72 (fun h51 => ?_)
    refine lv_iload_n hx hb d_Mo_take_75 rfl (lv_at hl 1 rfl) ?_
    obtain ⟨g52, hF⟩ := hF
    refine rs_iald C hH h51 g52 d_Mo_take_76 ?_
    refine lv_iadd hx hb d_Mo_take_77 ?_
    refine lv_icmp_ge hx hb d_Mo_take_78 (tgt := 101) rfl (fun hc => ?_) (fun hc => ?_)
    · replace hF := hF.1 hc
      refine lv_iload_n hx hb d_Mo_take_101 rfl (lv_at hl 2 rfl) ?_
      exact rs_iret C hH hT hS hF d_Mo_take_102
    · replace hF := hF.2 hc
      refine lv_aload_n hx hb d_Mo_take_81 rfl (lv_at hl 0 rfl) ?_
      refine rs_getR C hH hT h_v0 fk_11_17 tw_916 d_Mo_take_82 (fun h53 => ?_)
      refine lv_iload_n hx hb d_Mo_take_85 rfl (lv_at hl 3 rfl) ?_
      refine lv_aload_n hx hb d_Mo_take_86 rfl (lv_at hl 0 rfl) ?_
      refine rs_getR C hH hT h_v0 fk_11_17 tw_916 d_Mo_take_87 (fun h54 => ?_)
      refine lv_iload_n hx hb d_Mo_take_90 rfl (lv_at hl 3 rfl) ?_
      refine lv_iconst hx hb d_Mo_take_91 ki_1 ?_
      refine lv_iadd hx hb d_Mo_take_92 ?_
      obtain ⟨g55, hF⟩ := hF
      refine rs_iald C hH h54 g55 d_Mo_take_93 ?_
      obtain ⟨g56, hF⟩ := hF
      refine rs_iast C hH hT hS h53 g56 d_Mo_take_94 (fun σ57 H locs eσ57 hH hT hS => ?_)
      replace hF := hF σ57 eσ57
      obtain ⟨x58, ex58⟩ : ∃ z : Int32, z = x3 + (1 : Int32) := ⟨_, rfl⟩
      replace hF := hF x58 ex58
      refine lv_iinc hx hb d_Mo_take_95 hl (k := 3) rfl (v := x58) (by rw [ki_1, ex58]) (by decide) (lv' := [(3, .int x58), (0, .ref (Bm + v0)), (1, .int x1), (2, .int x2)]) rfl (fun ls hl => ?_)
      refine lv_goto hx hb d_Mo_take_98 (tgt := 65) rfl ?_
      exact hK65 v0 x1 x2 x58 σ57 _ _ _ h_v0 hH hT hS (lv_sub hl [1, 2, 3, 0] rfl) hF
set_option maxRecDepth 20000 in
theorem JB_Mo_take_26 {p : Program} {l : Launch} {e : Env} {s : State} {m : MethodId} {args : Array Value} {below : List Frame} {meth : Method} {c : Code} {G : rs_G} {Bm : Nat} {S : rs_Shp} {Q : Int32 → rs_Mem → Prop} (C : rs_C "RouteSpeakerModel" prog_12_method_62_code 4 (some .int) G p s m meth c args) (v0 : Nat) (x1 : Int32) (w0 : Nat) (y1 : Int32) (σ : rs_Mem) (H : Heap) (locs : List Loc) (ls : Array Slot) (h_v0 : rs_Ok S 11 v0) (h_w0 : rs_Ok S 11 w0) (hH : rs_H G Bm S σ H) (hT : rs_T S σ) (hS : va_S (rs_A Bm) s.heap H locs) (hl : lv_has ls 4 [(0, .ref (Bm + v0)), (1, .int x1)]) (hF : B_Mo_take_26 S.2.2 Q v0 x1 w0 y1 σ) :
    W p l e { frames := 1, cells := 0, slots := 0, locals := 20 } s m args below meth c H locs 0 0 (MQ below (rs_Qi G Bm S Q) args s 0 0 (rs_A Bm)) (F0 m 26 ls [.int y1, .ref (Bm + w0)]) := by
  have hx := C.1
  have hb := C.2.1
  unfold B_Mo_take_26 at hF
  refine rs_putI C hH hT hS h_w0 fk_11_0 rfl tw_899 d_Mo_take_26 (fun σ51 H locs eσ51 hH hT hS => ?_)
  replace hF := hF σ51 eσ51
  refine lv_aload_n hx hb d_Mo_take_29 rfl (lv_at hl 0 rfl) ?_
  refine rs_getI C hH h_v0 fk_11_0 tw_899 d_Mo_take_30 ?_
  refine lv_if_eq hx hb d_Mo_take_33 (tgt := 38) rfl (fun hc => ?_) (fun hc => ?_)
  · replace hF := hF.1 hc
    refine lv_aload_n hx hb d_Mo_take_38 rfl (lv_at hl 0 rfl) ?_
    refine rs_getR C hH hT h_v0 fk_11_17 tw_916 d_Mo_take_39 (fun h52 => ?_)
    refine lv_sipush hx hb d_Mo_take_42 ks_200 ?_
    refine lv_iload_n hx hb d_Mo_take_45 rfl (lv_at hl 1 rfl) ?_
    refine lv_imul hx hb d_Mo_take_46 ?_
    obtain ⟨g53, hF⟩ := hF
    refine rs_iald C hH h52 g53 d_Mo_take_47 ?_
    refine lv_topi (fun x54 ex54 => ?_)
    replace hF := hF x54 ex54
    refine lv_istore_n hx hb d_Mo_take_48 rfl hl (by decide) (lv' := [(2, .int x54), (0, .ref (Bm + v0)), (1, .int x1)]) rfl (fun ls hl => ?_)
    refine lv_aload_n hx hb d_Mo_take_49 rfl (lv_at hl 1 rfl) ?_
    refine rs_getR C hH hT h_v0 fk_11_18 tw_917 d_Mo_take_50 (fun h55 => ?_)
    refine lv_iload_n hx hb d_Mo_take_53 rfl (lv_at hl 2 rfl) ?_
    refine lv_dup2_11 hx hb d_Mo_take_54 rfl rfl ?_
    obtain ⟨g56, hF⟩ := hF
    refine rs_iald C hH h55 g56 d_Mo_take_55 ?_
    refine lv_iconst hx hb d_Mo_take_56 ki_1 ?_
    refine lv_isub hx hb d_Mo_take_57 ?_
    obtain ⟨g57, hF⟩ := hF
    refine rs_iast C hH hT hS h55 g57 d_Mo_take_58 (fun σ58 H locs eσ58 hH hT hS => ?_)
    replace hF := hF σ58 eσ58
    refine lv_sipush hx hb d_Mo_take_59 ks_200 ?_
    refine lv_iload_n hx hb d_Mo_take_62 rfl (lv_at hl 2 rfl) ?_
    refine lv_imul hx hb d_Mo_take_63 ?_
    refine lv_topi (fun x59 ex59 => ?_)
    replace hF := hF x59 ex59
    refine lv_istore_n hx hb d_Mo_take_64 rfl hl (by decide) (lv' := [(3, .int x59), (2, .int x54), (0, .ref (Bm + v0)), (1, .int x1)]) rfl (fun ls hl => ?_)
    obtain ⟨n, hF⟩ := hF
    exact JL_Mo_take_65 C n v0 x1 x54 x59 σ58 _ _ _ h_v0 hH hT hS (lv_sub hl [2, 3, 1, 0] rfl) hF
  · replace hF := hF.2 hc
    refine lv_iconst hx hb d_Mo_take_36 ki_0 ?_
    exact rs_iret C hH hT hS hF d_Mo_take_37
abbrev y_Mo_take : MethodName := ({ cls := "RouteSpeakerModel", name := "take", desc := "(I)I" } : Jvm.MethodName)
theorem rc_Mo_take : rs_Cal y_Mo_take prog_12_method_62_code 4 (some .int) 1 := ⟨tw_1263, tw_11, by decide, by decide, by decide +kernel⟩
set_option maxRecDepth 20000 in
theorem J_Mo_take (l : Launch) {G : rs_G} {Bm : Nat} {S : rs_Shp} {v0 : Nat} {x1 : Int32} {σ : rs_Mem} {Q : Int32 → rs_Mem → Prop} (h_v0 : rs_Ok S 11 v0) (hF : F_Mo_take S.2.2 v0 x1 σ Q) :
    Met l y_Mo_take (rs_ws y_Mo_take prog_12_method_62_code 4 (some .int)) { frames := 1, cells := 0, slots := 0, locals := 20 } (rs_P G Bm S σ [.ref (Bm + v0), .int x1]) (rs_Qi G Bm S Q) 0 0 (rs_A Bm) := by
  refine rs_met (own := "RouteSpeakerModel") (by decide) rfl (Nat.le_of_ble_eq_true rfl) (fun p e s m below meth c ls C hl hH hT hS => ?_)
  replace hl : lv_has ls 4 [(0, .ref (Bm + v0)), (1, .int x1)] := hl
  have hx := C.1
  have hb := C.2.1
  unfold F_Mo_take at hF
  refine lv_aload_n hx hb d_Mo_take_0 rfl (lv_at hl 0 rfl) ?_
  refine lv_iload_n hx hb d_Mo_take_1 rfl (lv_at hl 1 rfl) ?_
  refine rs_ci (rs_runS C hH hT hl (J_Mo_isPeer l hF) rc_Mo_isPeer tw_1031 tw_1032 rfl ⟨⟨rfl, rfl⟩, by decide, by decide, by decide⟩ (Nat.le_of_ble_eq_true rfl) rfl d_Mo_take_2) hS (fun x52 σ51 H locs hH hT hS hF => ?_)
  refine lv_if_ne hx hb d_Mo_take_5 (tgt := 12) rfl (fun hc => ?_) (fun hc => ?_)
  · replace hF := hF.1 hc
    refine lv_aload_n hx hb d_Mo_take_12 rfl (lv_at hl 0 rfl) ?_
    refine rs_getR C hH hT h_v0 fk_11_18 tw_917 d_Mo_take_13 (fun h53 => ?_)
    refine lv_iload_n hx hb d_Mo_take_16 rfl (lv_at hl 1 rfl) ?_
    obtain ⟨g54, hF⟩ := hF
    refine rs_iald C hH h53 g54 d_Mo_take_17 ?_
    refine lv_if_ne hx hb d_Mo_take_18 (tgt := 25) rfl (fun hc => ?_) (fun hc => ?_)
    · replace hF := hF.1 hc
      refine lv_iconst hx hb d_Mo_take_25 ki_0 ?_
      exact JB_Mo_take_26 C v0 x1 v0 (0 : Int32) σ51 _ _ _ h_v0 h_v0 hH hT hS (lv_sub hl [0, 1] rfl) hF
    · replace hF := hF.2 hc
      refine lv_iconst hx hb d_Mo_take_21 ki_2 ?_
      refine lv_goto hx hb d_Mo_take_22 (tgt := 26) rfl ?_
      exact JB_Mo_take_26 C v0 x1 v0 (2 : Int32) σ51 _ _ _ h_v0 h_v0 hH hT hS (lv_sub hl [0, 1] rfl) hF
  · replace hF := hF.2 hc
    refine lv_iconst hx hb d_Mo_take_8 ki_1 ?_
    refine lv_goto hx hb d_Mo_take_9 (tgt := 26) rfl ?_
    exact JB_Mo_take_26 C v0 x1 v0 (1 : Int32) σ51 _ _ _ h_v0 h_v0 hH hT hS (lv_sub hl [0, 1] rfl) hF
