/-! RouteSpeaker$Peer.sendKeepalive()V -/
theorem d_Pe_sendKeepalive_0 : decode prog_6_method_14_code 0 = .ok (.aload_n 0, 1) := by decide +kernel
theorem d_Pe_sendKeepalive_1 : decode prog_6_method_14_code 1 = .ok (.getfield 33, 3) := by decide +kernel
theorem d_Pe_sendKeepalive_4 : decode prog_6_method_14_code 4 = .ok (.iconst 0, 1) := by decide +kernel
theorem d_Pe_sendKeepalive_5 : decode prog_6_method_14_code 5 = .ok (.iconst 2, 1) := by decide +kernel
theorem d_Pe_sendKeepalive_6 : decode prog_6_method_14_code 6 = .ok (.iastore, 1) := by decide +kernel
theorem d_Pe_sendKeepalive_7 : decode prog_6_method_14_code 7 = .ok (.aload_n 0, 1) := by decide +kernel
theorem d_Pe_sendKeepalive_8 : decode prog_6_method_14_code 8 = .ok (.getfield 33, 3) := by decide +kernel
theorem d_Pe_sendKeepalive_11 : decode prog_6_method_14_code 11 = .ok (.iconst 1, 1) := by decide +kernel
theorem d_Pe_sendKeepalive_12 : decode prog_6_method_14_code 12 = .ok (.iconst 4, 1) := by decide +kernel
theorem d_Pe_sendKeepalive_13 : decode prog_6_method_14_code 13 = .ok (.iastore, 1) := by decide +kernel
theorem d_Pe_sendKeepalive_14 : decode prog_6_method_14_code 14 = .ok (.aload_n 0, 1) := by decide +kernel
theorem d_Pe_sendKeepalive_15 : decode prog_6_method_14_code 15 = .ok (.aload_n 0, 1) := by decide +kernel
theorem d_Pe_sendKeepalive_16 : decode prog_6_method_14_code 16 = .ok (.getfield 33, 3) := by decide +kernel
theorem d_Pe_sendKeepalive_19 : decode prog_6_method_14_code 19 = .ok (.iconst 2, 1) := by decide +kernel
theorem d_Pe_sendKeepalive_20 : decode prog_6_method_14_code 20 = .ok (.invokevirtual 64, 3) := by decide +kernel
theorem d_Pe_sendKeepalive_23 : decode prog_6_method_14_code 23 = .ok (.pop, 1) := by decide +kernel
theorem d_Pe_sendKeepalive_24 : decode prog_6_method_14_code 24 = .ok (.return_, 1) := by decide +kernel
def F_Pe_sendKeepalive (N : Nat → Nat) (v0 : Nat) (σ : rs_Mem) (Q : rs_Mem → Prop) : Prop :=
  (vp_in (0 : Int32) (N (rs_R σ v0 14)) ∧ ∀ σ53 : rs_Mem, σ53 = rs_sI σ (rs_R σ v0 14) (0 : Int32).toNatClampNeg (2 : Int32) → (vp_in (1 : Int32) (N (rs_R σ53 v0 14)) ∧ ∀ σ56 : rs_Mem, σ56 = rs_sI σ53 (rs_R σ53 v0 14) (1 : Int32).toNatClampNeg (4 : Int32) → (F_Pe_send N v0 (rs_R σ56 v0 14) (2 : Int32) σ56 (fun x59 σ58 => (Q σ58)))))
abbrev y_Pe_sendKeepalive : MethodName := ({ cls := "RouteSpeaker$Peer", name := "sendKeepalive", desc := "()V" } : Jvm.MethodName)
theorem rc_Pe_sendKeepalive : rs_Cal y_Pe_sendKeepalive prog_6_method_14_code 1 none 0 := ⟨tw_366, tw_7, by decide, by decide, by decide +kernel⟩
set_option maxRecDepth 20000 in
theorem J_Pe_sendKeepalive (l : Launch) {G : rs_G} {Bm : Nat} {S : rs_Shp} {v0 : Nat} {σ : rs_Mem} {Q : rs_Mem → Prop} (h_v0 : rs_Ok S 6 v0) (hF : F_Pe_sendKeepalive S.2.2 v0 σ Q) :
    Met l y_Pe_sendKeepalive (rs_ws y_Pe_sendKeepalive prog_6_method_14_code 1 none) { frames := 2, cells := 0, slots := 0, locals := 46 } (rs_P G Bm S σ [.ref (Bm + v0)]) (rs_Qv G Bm S Q) 0 0 (rs_A Bm) := by
  refine rs_met (own := "RouteSpeaker$Peer") (by decide) rfl (Nat.le_of_ble_eq_true rfl) (fun p e s m below meth c ls C hl hH hT hS => ?_)
  replace hl : lv_has ls 1 [(0, .ref (Bm + v0))] := hl
  have hx := C.1
  have hb := C.2.1
  unfold F_Pe_sendKeepalive at hF
  refine lv_aload_n hx hb d_Pe_sendKeepalive_0 rfl (lv_at hl 0 rfl) ?_
  refine rs_getR C hH hT h_v0 fk_6_14 tw_281 d_Pe_sendKeepalive_1 (fun h51 => ?_)
  refine lv_iconst hx hb d_Pe_sendKeepalive_4 ki_0 ?_
  refine lv_iconst hx hb d_Pe_sendKeepalive_5 ki_2 ?_
  obtain ⟨g52, hF⟩ := hF
  refine rs_iast C hH hT hS h51 g52 d_Pe_sendKeepalive_6 (fun σ53 H locs eσ53 hH hT hS => ?_)
  replace hF := hF σ53 eσ53
  refine lv_aload_n hx hb d_Pe_sendKeepalive_7 rfl (lv_at hl 0 rfl) ?_
  refine rs_getR C hH hT h_v0 fk_6_14 tw_281 d_Pe_sendKeepalive_8 (fun h54 => ?_)
  refine lv_iconst hx hb d_Pe_sendKeepalive_11 ki_1 ?_
  refine lv_iconst hx hb d_Pe_sendKeepalive_12 ki_4 ?_
  obtain ⟨g55, hF⟩ := hF
  refine rs_iast C hH hT hS h54 g55 d_Pe_sendKeepalive_13 (fun σ56 H locs eσ56 hH hT hS => ?_)
  replace hF := hF σ56 eσ56
  refine lv_aload_n hx hb d_Pe_sendKeepalive_14 rfl (lv_at hl 0 rfl) ?_
  refine lv_aload_n hx hb d_Pe_sendKeepalive_15 rfl (lv_at hl 0 rfl) ?_
  refine rs_getR C hH hT h_v0 fk_6_14 tw_281 d_Pe_sendKeepalive_16 (fun h57 => ?_)
  refine lv_iconst hx hb d_Pe_sendKeepalive_19 ki_2 ?_
  refine rs_ci (rs_runV C hH hT hl (J_Pe_send l h_v0 h57 hF) rc_Pe_send tw_351 tw_353 ts_0 h_v0 ⟨rfl, by decide, by decide⟩ rfl ⟨⟨rfl, rfl⟩, by decide, by decide, by decide⟩ (Nat.le_of_ble_eq_true rfl) rfl d_Pe_sendKeepalive_20) hS (fun x59 σ58 H locs hH hT hS hF => ?_)
  refine lv_pop hx hb d_Pe_sendKeepalive_23 rfl ?_
  exact rs_vret C hH hT hS hF d_Pe_sendKeepalive_24
/-! RouteSpeaker$Peer.lookWhenSent(I)V -/
theorem d_Pe_lookWhenSent_0 : decode prog_6_method_17_code 0 = .ok (.iload_n 1, 1) := by decide +kernel
theorem d_Pe_lookWhenSent_1 : decode prog_6_method_17_code 1 = .ok (.iconst 1, 1) := by decide +kernel
theorem d_Pe_lookWhenSent_2 : decode prog_6_method_17_code 2 = .ok (.if_icmp .eq (10), 3) := by decide +kernel
theorem d_Pe_lookWhenSent_5 : decode prog_6_method_17_code 5 = .ok (.aload_n 0, 1) := by decide +kernel
theorem d_Pe_lookWhenSent_6 : decode prog_6_method_17_code 6 = .ok (.iconst 5, 1) := by decide +kernel
theorem d_Pe_lookWhenSent_7 : decode prog_6_method_17_code 7 = .ok (.iconst 1, 1) := by decide +kernel
theorem d_Pe_lookWhenSent_8 : decode prog_6_method_17_code 8 = .ok (.invokevirtual 74, 3) := by decide +kernel
theorem d_Pe_lookWhenSent_11 : decode prog_6_method_17_code 11 = .ok (.return_, 1) := by decide +kernel
theorem d_Pe_lookWhenSent_12 : decode prog_6_method_17_code 12 = .ok (.aload_n 0, 1) := by decide +kernel
theorem d_Pe_lookWhenSent_13 : decode prog_6_method_17_code 13 = .ok (.getfield 22, 3) := by decide +kernel
theorem d_Pe_lookWhenSent_16 : decode prog_6_method_17_code 16 = .ok (.iconst 4, 1) := by decide +kernel
theorem d_Pe_lookWhenSent_17 : decode prog_6_method_17_code 17 = .ok (.iaload, 1) := by decide +kernel
theorem d_Pe_lookWhenSent_18 : decode prog_6_method_17_code 18 = .ok (.istore_n 2, 1) := by decide +kernel
theorem d_Pe_lookWhenSent_19 : decode prog_6_method_17_code 19 = .ok (.aload_n 0, 1) := by decide +kernel
theorem d_Pe_lookWhenSent_20 : decode prog_6_method_17_code 20 = .ok (.getfield 22, 3) := by decide +kernel
theorem d_Pe_lookWhenSent_23 : decode prog_6_method_17_code 23 = .ok (.iconst 2, 1) := by decide +kernel
theorem d_Pe_lookWhenSent_24 : decode prog_6_method_17_code 24 = .ok (.iaload, 1) := by decide +kernel
theorem d_Pe_lookWhenSent_25 : decode prog_6_method_17_code 25 = .ok (.iconst 4, 1) := by decide +kernel
theorem d_Pe_lookWhenSent_26 : decode prog_6_method_17_code 26 = .ok (.if_icmp .eq (12), 3) := by decide +kernel
theorem d_Pe_lookWhenSent_29 : decode prog_6_method_17_code 29 = .ok (.aload_n 0, 1) := by decide +kernel
theorem d_Pe_lookWhenSent_30 : decode prog_6_method_17_code 30 = .ok (.iconst 2, 1) := by decide +kernel
theorem d_Pe_lookWhenSent_31 : decode prog_6_method_17_code 31 = .ok (.iconst 1, 1) := by decide +kernel
theorem d_Pe_lookWhenSent_32 : decode prog_6_method_17_code 32 = .ok (.invokevirtual 74, 3) := by decide +kernel
theorem d_Pe_lookWhenSent_35 : decode prog_6_method_17_code 35 = .ok (.goto (114), 3) := by decide +kernel
theorem d_Pe_lookWhenSent_38 : decode prog_6_method_17_code 38 = .ok (.aload_n 0, 1) := by decide +kernel
theorem d_Pe_lookWhenSent_39 : decode prog_6_method_17_code 39 = .ok (.getfield 22, 3) := by decide +kernel
theorem d_Pe_lookWhenSent_42 : decode prog_6_method_17_code 42 = .ok (.iconst 3, 1) := by decide +kernel
theorem d_Pe_lookWhenSent_43 : decode prog_6_method_17_code 43 = .ok (.iaload, 1) := by decide +kernel
theorem d_Pe_lookWhenSent_44 : decode prog_6_method_17_code 44 = .ok (.aload_n 0, 1) := by decide +kernel
theorem d_Pe_lookWhenSent_45 : decode prog_6_method_17_code 45 = .ok (.getfield 48, 3) := by decide +kernel
theorem d_Pe_lookWhenSent_48 : decode prog_6_method_17_code 48 = .ok (.if_icmp .eq (12), 3) := by decide +kernel
theorem d_Pe_lookWhenSent_51 : decode prog_6_method_17_code 51 = .ok (.aload_n 0, 1) := by decide +kernel
theorem d_Pe_lookWhenSent_52 : decode prog_6_method_17_code 52 = .ok (.iconst 2, 1) := by decide +kernel
theorem d_Pe_lookWhenSent_53 : decode prog_6_method_17_code 53 = .ok (.iconst 2, 1) := by decide +kernel
theorem d_Pe_lookWhenSent_54 : decode prog_6_method_17_code 54 = .ok (.invokevirtual 74, 3) := by decide +kernel
theorem d_Pe_lookWhenSent_57 : decode prog_6_method_17_code 57 = .ok (.goto (92), 3) := by decide +kernel
theorem d_Pe_lookWhenSent_60 : decode prog_6_method_17_code 60 = .ok (.aload_n 0, 1) := by decide +kernel
theorem d_Pe_lookWhenSent_61 : decode prog_6_method_17_code 61 = .ok (.getfield 22, 3) := by decide +kernel
theorem d_Pe_lookWhenSent_64 : decode prog_6_method_17_code 64 = .ok (.iconst 5, 1) := by decide +kernel
theorem d_Pe_lookWhenSent_65 : decode prog_6_method_17_code 65 = .ok (.iaload, 1) := by decide +kernel
theorem d_Pe_lookWhenSent_66 : decode prog_6_method_17_code 66 = .ok (.invokestatic 127, 3) := by decide +kernel
theorem d_Pe_lookWhenSent_69 : decode prog_6_method_17_code 69 = .ok (.ifCond .eq (14), 3) := by decide +kernel
theorem d_Pe_lookWhenSent_72 : decode prog_6_method_17_code 72 = .ok (.aload_n 0, 1) := by decide +kernel
theorem d_Pe_lookWhenSent_73 : decode prog_6_method_17_code 73 = .ok (.getfield 22, 3) := by decide +kernel
theorem d_Pe_lookWhenSent_76 : decode prog_6_method_17_code 76 = .ok (.iconst 5, 1) := by decide +kernel
theorem d_Pe_lookWhenSent_77 : decode prog_6_method_17_code 77 = .ok (.iaload, 1) := by decide +kernel
theorem d_Pe_lookWhenSent_78 : decode prog_6_method_17_code 78 = .ok (.bipush (7), 2) := by decide +kernel
theorem d_Pe_lookWhenSent_80 : decode prog_6_method_17_code 80 = .ok (.if_icmp .ne (12), 3) := by decide +kernel
theorem d_Pe_lookWhenSent_83 : decode prog_6_method_17_code 83 = .ok (.aload_n 0, 1) := by decide +kernel
theorem d_Pe_lookWhenSent_84 : decode prog_6_method_17_code 84 = .ok (.iconst 2, 1) := by decide +kernel
theorem d_Pe_lookWhenSent_85 : decode prog_6_method_17_code 85 = .ok (.iconst 3, 1) := by decide +kernel
theorem d_Pe_lookWhenSent_86 : decode prog_6_method_17_code 86 = .ok (.invokevirtual 74, 3) := by decide +kernel
theorem d_Pe_lookWhenSent_89 : decode prog_6_method_17_code 89 = .ok (.goto (60), 3) := by decide +kernel
theorem d_Pe_lookWhenSent_92 : decode prog_6_method_17_code 92 = .ok (.iload_n 2, 1) := by decide +kernel
theorem d_Pe_lookWhenSent_93 : decode prog_6_method_17_code 93 = .ok (.iconst 1, 1) := by decide +kernel
theorem d_Pe_lookWhenSent_94 : decode prog_6_method_17_code 94 = .ok (.if_icmp .eq (8), 3) := by decide +kernel
theorem d_Pe_lookWhenSent_97 : decode prog_6_method_17_code 97 = .ok (.iload_n 2, 1) := by decide +kernel
theorem d_Pe_lookWhenSent_98 : decode prog_6_method_17_code 98 = .ok (.iconst 2, 1) := by decide +kernel
theorem d_Pe_lookWhenSent_99 : decode prog_6_method_17_code 99 = .ok (.if_icmp .ne (13), 3) := by decide +kernel
theorem d_Pe_lookWhenSent_102 : decode prog_6_method_17_code 102 = .ok (.aload_n 0, 1) := by decide +kernel
theorem d_Pe_lookWhenSent_103 : decode prog_6_method_17_code 103 = .ok (.iconst 2, 1) := by decide +kernel
theorem d_Pe_lookWhenSent_104 : decode prog_6_method_17_code 104 = .ok (.bipush (6), 2) := by decide +kernel
theorem d_Pe_lookWhenSent_106 : decode prog_6_method_17_code 106 = .ok (.invokevirtual 74, 3) := by decide +kernel
theorem d_Pe_lookWhenSent_109 : decode prog_6_method_17_code 109 = .ok (.goto (40), 3) := by decide +kernel
theorem d_Pe_lookWhenSent_112 : decode prog_6_method_17_code 112 = .ok (.aload_n 0, 1) := by decide +kernel
theorem d_Pe_lookWhenSent_113 : decode prog_6_method_17_code 113 = .ok (.bipush (9), 2) := by decide +kernel
theorem d_Pe_lookWhenSent_115 : decode prog_6_method_17_code 115 = .ok (.iload_n 2, 1) := by decide +kernel
theorem d_Pe_lookWhenSent_116 : decode prog_6_method_17_code 116 = .ok (.invokestatic 131, 3) := by decide +kernel
theorem d_Pe_lookWhenSent_119 : decode prog_6_method_17_code 119 = .ok (.putfield 93, 3) := by decide +kernel
theorem d_Pe_lookWhenSent_122 : decode prog_6_method_17_code 122 = .ok (.aload_n 0, 1) := by decide +kernel
theorem d_Pe_lookWhenSent_123 : decode prog_6_method_17_code 123 = .ok (.aload_n 0, 1) := by decide +kernel
theorem d_Pe_lookWhenSent_124 : decode prog_6_method_17_code 124 = .ok (.getfield 22, 3) := by decide +kernel
theorem d_Pe_lookWhenSent_127 : decode prog_6_method_17_code 127 = .ok (.iconst 5, 1) := by decide +kernel
theorem d_Pe_lookWhenSent_128 : decode prog_6_method_17_code 128 = .ok (.iaload, 1) := by decide +kernel
theorem d_Pe_lookWhenSent_129 : decode prog_6_method_17_code 129 = .ok (.putfield 120, 3) := by decide +kernel
theorem d_Pe_lookWhenSent_132 : decode prog_6_method_17_code 132 = .ok (.aload_n 0, 1) := by decide +kernel
theorem d_Pe_lookWhenSent_133 : decode prog_6_method_17_code 133 = .ok (.iconst 2, 1) := by decide +kernel
theorem d_Pe_lookWhenSent_134 : decode prog_6_method_17_code 134 = .ok (.putfield 51, 3) := by decide +kernel
theorem d_Pe_lookWhenSent_137 : decode prog_6_method_17_code 137 = .ok (.aload_n 0, 1) := by decide +kernel
theorem d_Pe_lookWhenSent_138 : decode prog_6_method_17_code 138 = .ok (.aload_n 0, 1) := by decide +kernel
theorem d_Pe_lookWhenSent_139 : decode prog_6_method_17_code 139 = .ok (.getfield 93, 3) := by decide +kernel
theorem d_Pe_lookWhenSent_142 : decode prog_6_method_17_code 142 = .ok (.putfield 61, 3) := by decide +kernel
theorem d_Pe_lookWhenSent_145 : decode prog_6_method_17_code 145 = .ok (.aload_n 0, 1) := by decide +kernel
theorem d_Pe_lookWhenSent_146 : decode prog_6_method_17_code 146 = .ok (.invokevirtual 99, 3) := by decide +kernel
theorem d_Pe_lookWhenSent_149 : decode prog_6_method_17_code 149 = .ok (.return_, 1) := by decide +kernel
def B_Pe_lookWhenSent_83 (N : Nat → Nat) (Q : rs_Mem → Prop) (v0 : Nat) (σ : rs_Mem) : Prop :=
  (F_Pe_end N v0 (2 : Int32) (3 : Int32) σ (fun σ51 => (Q σ51)))
def B_Pe_lookWhenSent_102 (N : Nat → Nat) (Q : rs_Mem → Prop) (v0 : Nat) (σ : rs_Mem) : Prop :=
  (F_Pe_end N v0 (2 : Int32) (6 : Int32) σ (fun σ51 => (Q σ51)))
def F_Pe_lookWhenSent (N : Nat → Nat) (v0 : Nat) (x1 : Int32) (σ : rs_Mem) (Q : rs_Mem → Prop) : Prop :=
  ((x1 = (1 : Int32) → (vp_in (4 : Int32) (N (rs_R σ v0 12)) ∧ (∀ x53 : Int32, x53 = (rs_I σ (rs_R σ v0 12) (4 : Int32).toNatClampNeg) → (vp_in (2 : Int32) (N (rs_R σ v0 12)) ∧ (((rs_I σ (rs_R σ v0 12) (2 : Int32).toNatClampNeg) = (4 : Int32) → (vp_in (3 : Int32) (N (rs_R σ v0 12)) ∧ (((rs_I σ (rs_R σ v0 12) (3 : Int32).toNatClampNeg) = (rs_I σ v0 1) → (vp_in (5 : Int32) (N (rs_R σ v0 12)) ∧ (F_Sp_isNumber N (rs_I σ (rs_R σ v0 12) (5 : Int32).toNatClampNeg) σ (fun x61 σ60 => ((x61 = 0 → (B_Pe_lookWhenSent_83 N Q v0 σ60)) ∧ (¬ (x61 = 0) → (vp_in (5 : Int32) (N (rs_R σ60 v0 12)) ∧ ((¬ ((rs_I σ60 (rs_R σ60 v0 12) (5 : Int32).toNatClampNeg) = (7 : Int32)) → ((x53 = (1 : Int32) → (B_Pe_lookWhenSent_102 N Q v0 σ60)) ∧ (¬ (x53 = (1 : Int32)) → ((¬ (x53 = (2 : Int32)) → (∀ σ64 : rs_Mem, σ64 = rs_sI σ60 v0 9 (if x53 < (9 : Int32) then x53 else (9 : Int32)) → (vp_in (5 : Int32) (N (rs_R σ64 v0 12)) ∧ (∀ σ67 : rs_Mem, σ67 = rs_sI σ64 v0 10 (rs_I σ64 (rs_R σ64 v0 12) (5 : Int32).toNatClampNeg) → (∀ σ68 : rs_Mem, σ68 = rs_sI σ67 v0 6 (2 : Int32) → (∀ σ69 : rs_Mem, σ69 = rs_sI σ68 v0 7 (rs_I σ68 v0 9) → (F_Pe_sendKeepalive N v0 σ69 (fun σ70 => (Q σ70))))))))) ∧ (x53 = (2 : Int32) → (B_Pe_lookWhenSent_102 N Q v0 σ60)))))) ∧ ((rs_I σ60 (rs_R σ60 v0 12) (5 : Int32).toNatClampNeg) = (7 : Int32) → (B_Pe_lookWhenSent_83 N Q v0 σ60)))))))))) ∧ (¬ ((rs_I σ (rs_R σ v0 12) (3 : Int32).toNatClampNeg) = (rs_I σ v0 1)) → (F_Pe_end N v0 (2 : Int32) (2 : Int32) σ (fun σ58 => (Q σ58))))))) ∧ (¬ ((rs_I σ (rs_R σ v0 12) (2 : Int32).toNatClampNeg) = (4 : Int32)) → (F_Pe_end N v0 (2 : Int32) (1 : Int32) σ (fun σ56 => (Q σ56))))))))) ∧ (¬ (x1 = (1 : Int32)) → (F_Pe_end N v0 (5 : Int32) (1 : Int32) σ (fun σ51 => (Q σ51)))))
set_option maxRecDepth 20000 in
theorem JB_Pe_lookWhenSent_83 {p : Program} {l : Launch} {e : Env} {s : State} {m : MethodId} {args : Array Value} {below : List Frame} {meth : Method} {c : Code} {G : rs_G} {Bm : Nat} {S : rs_Shp} {Q : rs_Mem → Prop} (C : rs_C "RouteSpeaker$Peer" prog_6_method_17_code 3 none G p s m meth c args) (v0 : Nat) (σ : rs_Mem) (H : Heap) (locs : List Loc) (ls : Array Slot) (h_v0 : rs_Ok S 6 v0) (hH : rs_H G Bm S σ H) (hT : rs_T S σ) (hS : va_S (rs_A Bm) s.heap H locs) (hl : lv_has ls 3 [(0, .ref (Bm + v0))]) (hF : B_Pe_lookWhenSent_83 S.2.2 Q v0 σ) :
    W p l e { frames := 3, cells := 0, slots := 0, locals := 68 } s m args below meth c H locs 0 0 (MQ below (rs_Qv G Bm S Q) args s 0 0 (rs_A Bm)) (F0 m 83 ls []) := by
  have hx := C.1
  have hb := C.2.1
  unfold B_Pe_lookWhenSent_83 at hF
  refine lv_aload_n hx hb d_Pe_lookWhenSent_83 rfl (lv_at hl 0 rfl) ?_
  refine lv_iconst hx hb d_Pe_lookWhenSent_84 ki_2 ?_
  refine lv_iconst hx hb d_Pe_lookWhenSent_85 ki_3 ?_
  refine rs_cv (rs_runV C hH hT hl (J_Pe_end l h_v0 hF) rc_Pe_end tw_347 tw_348 tw_349 h_v0 ⟨rfl, by decide, by decide⟩ rfl ⟨⟨rfl, rfl⟩, by decide, by decide, by decide⟩ (Nat.le_of_ble_eq_true rfl) rfl d_Pe_lookWhenSent_86) hS (fun σ51 H locs hH hT hS hF => ?_)
  refine lv_goto hx hb d_Pe_lookWhenSent_89 (tgt := 149) rfl ?_
  exact rs_vret C hH hT hS hF d_Pe_lookWhenSent_149
set_option maxRecDepth 20000 in
theorem JB_Pe_lookWhenSent_102 {p : Program} {l : Launch} {e : Env} {s : State} {m : MethodId} {args : Array Value} {below : List Frame} {meth : Method} {c : Code} {G : rs_G} {Bm : Nat} {S : rs_Shp} {Q : rs_Mem → Prop} (C : rs_C "RouteSpeaker$Peer" prog_6_method_17_code 3 none G p s m meth c args) (v0 : Nat) (σ : rs_Mem) (H : Heap) (locs : List Loc) (ls : Array Slot) (h_v0 : rs_Ok S 6 v0) (hH : rs_H G Bm S σ H) (hT : rs_T S σ) (hS : va_S (rs_A Bm) s.heap H locs) (hl : lv_has ls 3 [(0, .ref (Bm + v0))]) (hF : B_Pe_lookWhenSent_102 S.2.2 Q v0 σ) :
    W p l e { frames := 3, cells := 0, slots := 0, locals := 68 } s m args below meth c H locs 0 0 (MQ below (rs_Qv G Bm S Q) args s 0 0 (rs_A Bm)) (F0 m 102 ls []) := by
  have hx := C.1
  have hb := C.2.1
  unfold B_Pe_lookWhenSent_102 at hF
  refine lv_aload_n hx hb d_Pe_lookWhenSent_102 rfl (lv_at hl 0 rfl) ?_
  refine lv_iconst hx hb d_Pe_lookWhenSent_103 ki_2 ?_
  refine lv_bipush hx hb d_Pe_lookWhenSent_104 kb_6 ?_
  refine rs_cv (rs_runV C hH hT hl (J_Pe_end l h_v0 hF) rc_Pe_end tw_347 tw_348 tw_349 h_v0 ⟨rfl, by decide, by decide⟩ rfl ⟨⟨rfl, rfl⟩, by decide, by decide, by decide⟩ (Nat.le_of_ble_eq_true rfl) rfl d_Pe_lookWhenSent_106) hS (fun σ51 H locs hH hT hS hF => ?_)
  refine lv_goto hx hb d_Pe_lookWhenSent_109 (tgt := 149) rfl ?_
  exact rs_vret C hH hT hS hF d_Pe_lookWhenSent_149
abbrev y_Pe_lookWhenSent : MethodName := ({ cls := "RouteSpeaker$Peer", name := "lookWhenSent", desc := "(I)V" } : Jvm.MethodName)
theorem rc_Pe_lookWhenSent : rs_Cal y_Pe_lookWhenSent prog_6_method_17_code 3 none 1 := ⟨tw_713, tw_7, by decide, by decide, by decide +kernel⟩
set_option maxRecDepth 20000 in
theorem J_Pe_lookWhenSent (l : Launch) {G : rs_G} {Bm : Nat} {S : rs_Shp} {v0 : Nat} {x1 : Int32} {σ : rs_Mem} {Q : rs_Mem → Prop} (h_v0 : rs_Ok S 6 v0) (hF : F_Pe_lookWhenSent S.2.2 v0 x1 σ Q) :
    Met l y_Pe_lookWhenSent (rs_ws y_Pe_lookWhenSent prog_6_method_17_code 3 none) { frames := 3, cells := 0, slots := 0, locals := 68 } (rs_P G Bm S σ [.ref (Bm + v0), .int x1]) (rs_Qv G Bm S Q) 0 0 (rs_A Bm) := by
  refine rs_met (own := "RouteSpeaker$Peer") (by decide) rfl (Nat.le_of_ble_eq_true rfl) (fun p e s m below meth c ls C hl hH hT hS => ?_)
  replace hl : lv_has ls 3 [(0, .ref (Bm + v0)), (1, .int x1)] := hl
  have hx := C.1
  have hb := C.2.1
  unfold F_Pe_lookWhenSent at hF
  refine lv_iload_n hx hb d_Pe_lookWhenSent_0 rfl (lv_at hl 1 rfl) ?_
  refine lv_iconst hx hb d_Pe_lookWhenSent_1 ki_1 ?_
  refine lv_icmp_eq hx hb d_Pe_lookWhenSent_2 (tgt := 12) rfl (fun hc => ?_) (fun hc => ?_)
  · replace hF := hF.1 hc
    refine lv_aload_n hx hb d_Pe_lookWhenSent_12 rfl (lv_at hl 0 rfl) ?_
    refine rs_getR C hH hT h_v0 fk_6_12 tw_278 d_Pe_lookWhenSent_13 (fun h51 => ?_)
    refine lv_iconst hx hb d_Pe_lookWhenSent_16 ki_4 ?_
    obtain ⟨g52, hF⟩ := hF
    refine rs_iald C hH h51 g52 d_Pe_lookWhenSent_17 ?_
    refine lv_topi (fun x53 ex53 => ?_)
    replace hF := hF x53 ex53
    refine lv_istore_n hx hb d_Pe_lookWhenSent_18 rfl hl (by decide) (lv' := [(2, .int x53), (0, .ref (Bm + v0)), (1, .int x1)]) rfl (fun ls hl => ?_)
    refine lv_aload_n hx hb d_Pe_lookWhenSent_19 rfl (lv_at hl 1 rfl) ?_
    refine rs_getR C hH hT h_v0 fk_6_12 tw_278 d_Pe_lookWhenSent_20 (fun h54 => ?_)
    refine lv_iconst hx hb d_Pe_lookWhenSent_23 ki_2 ?_
    obtain ⟨g55, hF⟩ := hF
    refine rs_iald C hH h54 g55 d_Pe_lookWhenSent_24 ?_
    refine lv_iconst hx hb d_Pe_lookWhenSent_25 ki_4 ?_
    refine lv_icmp_eq hx hb d_Pe_lookWhenSent_26 (tgt := 38) rfl (fun hc => ?_) (fun hc => ?_)
    · replace hF := hF.1 hc
      refine lv_aload_n hx hb d_Pe_lookWhenSent_38 rfl (lv_at hl 1 rfl) ?_
      refine rs_getR C hH hT h_v0 fk_6_12 tw_278 d_Pe_lookWhenSent_39 (fun h56 => ?_)
      refine lv_iconst hx hb d_Pe_lookWhenSent_42 ki_3 ?_
      obtain ⟨g57, hF⟩ := hF
      refine rs_iald C hH h56 g57 d_Pe_lookWhenSent_43 ?_
      refine lv_aload_n hx hb d_Pe_lookWhenSent_44 rfl (lv_at hl 1 rfl) ?_
      refine rs_getI C hH h_v0 fk_6_1 tw_257 d_Pe_lookWhenSent_45 ?_
      refine lv_icmp_eq hx hb d_Pe_lookWhenSent_48 (tgt := 60) rfl (fun hc => ?_) (fun hc => ?_)
      · replace hF := hF.1 hc
        refine lv_aload_n hx hb d_Pe_lookWhenSent_60 rfl (lv_at hl 1 rfl) ?_
        refine rs_getR C hH hT h_v0 fk_6_12 tw_278 d_Pe_lookWhenSent_61 (fun h58 => ?_)
        refine lv_iconst hx hb d_Pe_lookWhenSent_64 ki_5 ?_
        obtain ⟨g59, hF⟩ := hF
        refine rs_iald C hH h58 g59 d_Pe_lookWhenSent_65 ?_
        refine rs_ci (rs_runSN C hH hT hl (J_Sp_isNumber l hF) rc_Sp_isNumber (host := "RouteSpeaker") nw_2 tw_597 rfl ⟨⟨rfl, rfl⟩, by decide, by decide, by decide⟩ (Nat.le_of_ble_eq_true rfl) rfl d_Pe_lookWhenSent_66) hS (fun x61 σ60 H locs hH hT hS hF => ?_)
        refine lv_if_eq hx hb d_Pe_lookWhenSent_69 (tgt := 83) rfl (fun hc => ?_) (fun hc => ?_)
        · replace hF := hF.1 hc
          exact JB_Pe_lookWhenSent_83 C v0 σ60 _ _ _ h_v0 hH hT hS (lv_sub hl [1] rfl) hF
        · replace hF := hF.2 hc
          refine lv_aload_n hx hb d_Pe_lookWhenSent_72 rfl (lv_at hl 1 rfl) ?_
          refine rs_getR C hH hT h_v0 fk_6_12 tw_278 d_Pe_lookWhenSent_73 (fun h62 => ?_)
          refine lv_iconst hx hb d_Pe_lookWhenSent_76 ki_5 ?_
          obtain ⟨g63, hF⟩ := hF
          refine rs_iald C hH h62 g63 d_Pe_lookWhenSent_77 ?_
          refine lv_bipush hx hb d_Pe_lookWhenSent_78 kb_7 ?_
          refine lv_icmp_ne hx hb d_Pe_lookWhenSent_80 (tgt := 92) rfl (fun hc => ?_) (fun hc => ?_)
          · replace hF := hF.1 hc
            refine lv_iload_n hx hb d_Pe_lookWhenSent_92 rfl (lv_at hl 0 rfl) ?_
            refine lv_iconst hx hb d_Pe_lookWhenSent_93 ki_1 ?_
            refine lv_icmp_eq hx hb d_Pe_lookWhenSent_94 (tgt := 102) rfl (fun hc => ?_) (fun hc => ?_)
            · replace hF := hF.1 hc
              exact JB_Pe_lookWhenSent_102 C v0 σ60 _ _ _ h_v0 hH hT hS (lv_sub hl [1] rfl) hF
            · replace hF := hF.2 hc
              refine lv_iload_n hx hb d_Pe_lookWhenSent_97 rfl (lv_at hl 0 rfl) ?_
              refine lv_iconst hx hb d_Pe_lookWhenSent_98 ki_2 ?_
              refine lv_icmp_ne hx hb d_Pe_lookWhenSent_99 (tgt := 112) rfl (fun hc => ?_) (fun hc => ?_)
              · replace hF := hF.1 hc
                refine lv_aload_n hx hb d_Pe_lookWhenSent_112 rfl (lv_at hl 1 rfl) ?_
                refine lv_bipush hx hb d_Pe_lookWhenSent_113 kb_9 ?_
                refine lv_iload_n hx hb d_Pe_lookWhenSent_115 rfl (lv_at hl 0 rfl) ?_
                refine rs_min C hl tw_715 tw_716 tw_17 mw_min ⟨by decide, Nat.le_of_ble_eq_true rfl, by decide, by decide⟩ d_Pe_lookWhenSent_116 ?_
                refine rs_putI C hH hT hS h_v0 fk_6_9 rfl tw_272 d_Pe_lookWhenSent_119 (fun σ64 H locs eσ64 hH hT hS => ?_)
                replace hF := hF σ64 eσ64
                refine lv_aload_n hx hb d_Pe_lookWhenSent_122 rfl (lv_at hl 1 rfl) ?_
                refine lv_aload_n hx hb d_Pe_lookWhenSent_123 rfl (lv_at hl 1 rfl) ?_
                refine rs_getR C hH hT h_v0 fk_6_12 tw_278 d_Pe_lookWhenSent_124 (fun h65 => ?_)
                refine lv_iconst hx hb d_Pe_lookWhenSent_127 ki_5 ?_
                obtain ⟨g66, hF⟩ := hF
                refine rs_iald C hH h65 g66 d_Pe_lookWhenSent_128 ?_
                refine rs_putI C hH hT hS h_v0 fk_6_10 rfl tw_275 d_Pe_lookWhenSent_129 (fun σ67 H locs eσ67 hH hT hS => ?_)
                replace hF := hF σ67 eσ67
                refine lv_aload_n hx hb d_Pe_lookWhenSent_132 rfl (lv_at hl 1 rfl) ?_
                refine lv_iconst hx hb d_Pe_lookWhenSent_133 ki_2 ?_
                refine rs_putI C hH hT hS h_v0 fk_6_6 rfl tw_266 d_Pe_lookWhenSent_134 (fun σ68 H locs eσ68 hH hT hS => ?_)
                replace hF := hF σ68 eσ68
                refine lv_aload_n hx hb d_Pe_lookWhenSent_137 rfl (lv_at hl 1 rfl) ?_
                refine lv_aload_n hx hb d_Pe_lookWhenSent_138 rfl (lv_at hl 1 rfl) ?_
                refine rs_getI C hH h_v0 fk_6_9 tw_272 d_Pe_lookWhenSent_139 ?_
                refine rs_putI C hH hT hS h_v0 fk_6_7 rfl tw_268 d_Pe_lookWhenSent_142 (fun σ69 H locs eσ69 hH hT hS => ?_)
                replace hF := hF σ69 eσ69
                refine lv_aload_n hx hb d_Pe_lookWhenSent_145 rfl (lv_at hl 1 rfl) ?_
                refine rs_cv (rs_runV C hH hT hl (J_Pe_sendKeepalive l h_v0 hF) rc_Pe_sendKeepalive tw_363 tw_365 ts_2 h_v0 ⟨rfl, by decide, by decide⟩ rfl ⟨⟨rfl, rfl⟩, by decide, by decide, by decide⟩ (Nat.le_of_ble_eq_true rfl) rfl d_Pe_lookWhenSent_146) hS (fun σ70 H locs hH hT hS hF => ?_)
                exact rs_vret C hH hT hS hF d_Pe_lookWhenSent_149
              · replace hF := hF.2 hc
                exact JB_Pe_lookWhenSent_102 C v0 σ60 _ _ _ h_v0 hH hT hS (lv_sub hl [1] rfl) hF
          · replace hF := hF.2 hc
            exact JB_Pe_lookWhenSent_83 C v0 σ60 _ _ _ h_v0 hH hT hS (lv_sub hl [1] rfl) hF
      · replace hF := hF.2 hc
        refine lv_aload_n hx hb d_Pe_lookWhenSent_51 rfl (lv_at hl 1 rfl) ?_
        refine lv_iconst hx hb d_Pe_lookWhenSent_52 ki_2 ?_
        refine lv_iconst hx hb d_Pe_lookWhenSent_53 ki_2 ?_
        refine rs_cv (rs_runV C hH hT hl (J_Pe_end l h_v0 hF) rc_Pe_end tw_347 tw_348 tw_349 h_v0 ⟨rfl, by decide, by decide⟩ rfl ⟨⟨rfl, rfl⟩, by decide, by decide, by decide⟩ (Nat.le_of_ble_eq_true rfl) rfl d_Pe_lookWhenSent_54) hS (fun σ58 H locs hH hT hS hF => ?_)
        refine lv_goto hx hb d_Pe_lookWhenSent_57 (tgt := 149) rfl ?_
        exact rs_vret C hH hT hS hF d_Pe_lookWhenSent_149
    · replace hF := hF.2 hc
      refine lv_aload_n hx hb d_Pe_lookWhenSent_29 rfl (lv_at hl 1 rfl) ?_
      refine lv_iconst hx hb d_Pe_lookWhenSent_30 ki_2 ?_
      refine lv_iconst hx hb d_Pe_lookWhenSent_31 ki_1 ?_
      refine rs_cv (rs_runV C hH hT hl (J_Pe_end l h_v0 hF) rc_Pe_end tw_347 tw_348 tw_349 h_v0 ⟨rfl, by decide, by decide⟩ rfl ⟨⟨rfl, rfl⟩, by decide, by decide, by decide⟩ (Nat.le_of_ble_eq_true rfl) rfl d_Pe_lookWhenSent_32) hS (fun σ56 H locs hH hT hS hF => ?_)
      refine lv_goto hx hb d_Pe_lookWhenSent_35 (tgt := 149) rfl ?_
      exact rs_vret C hH hT hS hF d_Pe_lookWhenSent_149
  · replace hF := hF.2 hc
    refine lv_aload_n hx hb d_Pe_lookWhenSent_5 rfl (lv_at hl 0 rfl) ?_
    refine lv_iconst hx hb d_Pe_lookWhenSent_6 ki_5 ?_
    refine lv_iconst hx hb d_Pe_lookWhenSent_7 ki_1 ?_
    refine rs_cv (rs_runV C hH hT hl (J_Pe_end l h_v0 hF) rc_Pe_end tw_347 tw_348 tw_349 h_v0 ⟨rfl, by decide, by decide⟩ rfl ⟨⟨rfl, rfl⟩, by decide, by decide, by decide⟩ (Nat.le_of_ble_eq_true rfl) rfl d_Pe_lookWhenSent_8) hS (fun σ51 H locs hH hT hS hF => ?_)
    exact rs_vret C hH hT hS hF d_Pe_lookWhenSent_11
/-! RouteSpeaker$Peer.lookWhenAgreed(I)V -/
theorem d_Pe_lookWhenAgreed_0 : decode prog_6_method_18_code 0 = .ok (.iload_n 1, 1) := by decide +kernel
theorem d_Pe_lookWhenAgreed_1 : decode prog_6_method_18_code 1 = .ok (.iconst 4, 1) := by decide +kernel
theorem d_Pe_lookWhenAgreed_2 : decode prog_6_method_18_code 2 = .ok (.if_icmp .eq (10), 3) := by decide +kernel
theorem d_Pe_lookWhenAgreed_5 : decode prog_6_method_18_code 5 = .ok (.aload_n 0, 1) := by decide +kernel
theorem d_Pe_lookWhenAgreed_6 : decode prog_6_method_18_code 6 = .ok (.iconst 5, 1) := by decide +kernel
theorem d_Pe_lookWhenAgreed_7 : decode prog_6_method_18_code 7 = .ok (.iconst 2, 1) := by decide +kernel
theorem d_Pe_lookWhenAgreed_8 : decode prog_6_method_18_code 8 = .ok (.invokevirtual 74, 3) := by decide +kernel
theorem d_Pe_lookWhenAgreed_11 : decode prog_6_method_18_code 11 = .ok (.return_, 1) := by decide +kernel
theorem d_Pe_lookWhenAgreed_12 : decode prog_6_method_18_code 12 = .ok (.aload_n 0, 1) := by decide +kernel
theorem d_Pe_lookWhenAgreed_13 : decode prog_6_method_18_code 13 = .ok (.iconst 3, 1) := by decide +kernel
theorem d_Pe_lookWhenAgreed_14 : decode prog_6_method_18_code 14 = .ok (.putfield 51, 3) := by decide +kernel
theorem d_Pe_lookWhenAgreed_17 : decode prog_6_method_18_code 17 = .ok (.aload_n 0, 1) := by decide +kernel
theorem d_Pe_lookWhenAgreed_18 : decode prog_6_method_18_code 18 = .ok (.aload_n 0, 1) := by decide +kernel
theorem d_Pe_lookWhenAgreed_19 : decode prog_6_method_18_code 19 = .ok (.getfield 93, 3) := by decide +kernel
theorem d_Pe_lookWhenAgreed_22 : decode prog_6_method_18_code 22 = .ok (.putfield 61, 3) := by decide +kernel
theorem d_Pe_lookWhenAgreed_25 : decode prog_6_method_18_code 25 = .ok (.aload_n 0, 1) := by decide +kernel
theorem d_Pe_lookWhenAgreed_26 : decode prog_6_method_18_code 26 = .ok (.aload_n 0, 1) := by decide +kernel
theorem d_Pe_lookWhenAgreed_27 : decode prog_6_method_18_code 27 = .ok (.getfield 93, 3) := by decide +kernel
theorem d_Pe_lookWhenAgreed_30 : decode prog_6_method_18_code 30 = .ok (.iconst 3, 1) := by decide +kernel
theorem d_Pe_lookWhenAgreed_31 : decode prog_6_method_18_code 31 = .ok (.idiv, 1) := by decide +kernel
theorem d_Pe_lookWhenAgreed_32 : decode prog_6_method_18_code 32 = .ok (.putfield 96, 3) := by decide +kernel
theorem d_Pe_lookWhenAgreed_35 : decode prog_6_method_18_code 35 = .ok (.return_, 1) := by decide +kernel
def F_Pe_lookWhenAgreed (N : Nat → Nat) (v0 : Nat) (x1 : Int32) (σ : rs_Mem) (Q : rs_Mem → Prop) : Prop :=
  ((x1 = (4 : Int32) → (∀ σ51 : rs_Mem, σ51 = rs_sI σ v0 6 (3 : Int32) → (∀ σ52 : rs_Mem, σ52 = rs_sI σ51 v0 7 (rs_I σ51 v0 9) → (∀ σ53 : rs_Mem, σ53 = rs_sI σ52 v0 8 ((rs_I σ52 v0 9) / (3 : Int32)) → (Q σ53))))) ∧ (¬ (x1 = (4 : Int32)) → (F_Pe_end N v0 (5 : Int32) (2 : Int32) σ (fun σ51 => (Q σ51)))))
abbrev y_Pe_lookWhenAgreed : MethodName := ({ cls := "RouteSpeaker$Peer", name := "lookWhenAgreed", desc := "(I)V" } : Jvm.MethodName)
theorem rc_Pe_lookWhenAgreed : rs_Cal y_Pe_lookWhenAgreed prog_6_method_18_code 2 none 1 := ⟨tw_721, tw_7, by decide, by decide, by decide +kernel⟩
set_option maxRecDepth 20000 in
theorem J_Pe_lookWhenAgreed (l : Launch) {G : rs_G} {Bm : Nat} {S : rs_Shp} {v0 : Nat} {x1 : Int32} {σ : rs_Mem} {Q : rs_Mem → Prop} (h_v0 : rs_Ok S 6 v0) (hF : F_Pe_lookWhenAgreed S.2.2 v0 x1 σ Q) :
    Met l y_Pe_lookWhenAgreed (rs_ws y_Pe_lookWhenAgreed prog_6_method_18_code 2 none) { frames := 3, cells := 0, slots := 0, locals := 68 } (rs_P G Bm S σ [.ref (Bm + v0), .int x1]) (rs_Qv G Bm S Q) 0 0 (rs_A Bm) := by
  refine rs_met (own := "RouteSpeaker$Peer") (by decide) rfl (Nat.le_of_ble_eq_true rfl) (fun p e s m below meth c ls C hl hH hT hS => ?_)
  replace hl : lv_has ls 2 [(0, .ref (Bm + v0)), (1, .int x1)] := hl
  have hx := C.1
  have hb := C.2.1
  unfold F_Pe_lookWhenAgreed at hF
  refine lv_iload_n hx hb d_Pe_lookWhenAgreed_0 rfl (lv_at hl 1 rfl) ?_
  refine lv_iconst hx hb d_Pe_lookWhenAgreed_1 ki_4 ?_
  refine lv_icmp_eq hx hb d_Pe_lookWhenAgreed_2 (tgt := 12) rfl (fun hc => ?_) (fun hc => ?_)
  · replace hF := hF.1 hc
    refine lv_aload_n hx hb d_Pe_lookWhenAgreed_12 rfl (lv_at hl 0 rfl) ?_
    refine lv_iconst hx hb d_Pe_lookWhenAgreed_13 ki_3 ?_
    refine rs_putI C hH hT hS h_v0 fk_6_6 rfl tw_266 d_Pe_lookWhenAgreed_14 (fun σ51 H locs eσ51 hH hT hS => ?_)
    replace hF := hF σ51 eσ51
    refine lv_aload_n hx hb d_Pe_lookWhenAgreed_17 rfl (lv_at hl 0 rfl) ?_
    refine lv_aload_n hx hb d_Pe_lookWhenAgreed_18 rfl (lv_at hl 0 rfl) ?_
    refine rs_getI C hH h_v0 fk_6_9 tw_272 d_Pe_lookWhenAgreed_19 ?_
    refine rs_putI C hH hT hS h_v0 fk_6_7 rfl tw_268 d_Pe_lookWhenAgreed_22 (fun σ52 H locs eσ52 hH hT hS => ?_)
    replace hF := hF σ52 eσ52
    refine lv_aload_n hx hb d_Pe_lookWhenAgreed_25 rfl (lv_at hl 0 rfl) ?_
    refine lv_aload_n hx hb d_Pe_lookWhenAgreed_26 rfl (lv_at hl 0 rfl) ?_
    refine rs_getI C hH h_v0 fk_6_9 tw_272 d_Pe_lookWhenAgreed_27 ?_
    refine lv_iconst hx hb d_Pe_lookWhenAgreed_30 ki_3 ?_
    refine lv_idiv hx hb d_Pe_lookWhenAgreed_31 (by decide) ?_
    refine rs_putI C hH hT hS h_v0 fk_6_8 rfl tw_270 d_Pe_lookWhenAgreed_32 (fun σ53 H locs eσ53 hH hT hS => ?_)
    replace hF := hF σ53 eσ53
    exact rs_vret C hH hT hS hF d_Pe_lookWhenAgreed_35
  · replace hF := hF.2 hc
    refine lv_aload_n hx hb d_Pe_lookWhenAgreed_5 rfl (lv_at hl 0 rfl) ?_
    refine lv_iconst hx hb d_Pe_lookWhenAgreed_6 ki_5 ?_
    refine lv_iconst hx hb d_Pe_lookWhenAgreed_7 ki_2 ?_
    refine rs_cv (rs_runV C hH hT hl (J_Pe_end l h_v0 hF) rc_Pe_end tw_347 tw_348 tw_349 h_v0 ⟨rfl, by decide, by decide⟩ rfl ⟨⟨rfl, rfl⟩, by decide, by decide, by decide⟩ (Nat.le_of_ble_eq_true rfl) rfl d_Pe_lookWhenAgreed_8) hS (fun σ51 H locs hH hT hS hF => ?_)
    exact rs_vret C hH hT hS hF d_Pe_lookWhenAgreed_11
/-! RouteSpeaker$Route.dropInner()V -/
theorem d_Ro_dropInner_0 : decode prog_8_method_3_code 0 = .ok (.aload_n 0, 1) := by decide +kernel
theorem d_Ro_dropInner_1 : decode prog_8_method_3_code 1 = .ok (.bipush (100), 2) := by decide +kernel
theorem d_Ro_dropInner_3 : decode prog_8_method_3_code 3 = .ok (.putfield 19, 3) := by decide +kernel
theorem d_Ro_dropInner_6 : decode prog_8_method_3_code 6 = .ok (.aload_n 0, 1) := by decide +kernel
theorem d_Ro_dropInner_7 : decode prog_8_method_3_code 7 = .ok (.iconst 0, 1) := by decide +kernel
theorem d_Ro_dropInner_8 : decode prog_8_method_3_code 8 = .ok (.putfield 37, 3) := by decide +kernel
theorem d_Ro_dropInner_11 : decode prog_8_method_3_code 11 = .ok (.aload_n 0, 1) := by decide +kernel
theorem d_Ro_dropInner_12 : decode prog_8_method_3_code 12 = .ok (.iconst 0, 1) := by decide +kernel
theorem d_Ro_dropInner_13 : decode prog_8_method_3_code 13 = .ok (.putfield 40, 3) := by decide +kernel
theorem d_Ro_dropInner_16 : decode prog_8_method_3_code 16 = .ok (.return_, 1) := by decide +kernel
def F_Ro_dropInner (N : Nat → Nat) (v0 : Nat) (σ : rs_Mem) (Q : rs_Mem → Prop) : Prop :=
  (∀ σ51 : rs_Mem, σ51 = rs_sI σ v0 5 (100 : Int32) → (∀ σ52 : rs_Mem, σ52 = rs_sI σ51 v0 6 (0 : Int32) → (∀ σ53 : rs_Mem, σ53 = rs_sI σ52 v0 7 (0 : Int32) → (Q σ53))))
abbrev y_Ro_dropInner : MethodName := ({ cls := "RouteSpeaker$Route", name := "dropInner", desc := "()V" } : Jvm.MethodName)
theorem rc_Ro_dropInner : rs_Cal y_Ro_dropInner prog_8_method_3_code 1 none 0 := ⟨tw_741, tw_3, by decide, by decide, by decide +kernel⟩
set_option maxRecDepth 20000 in
theorem J_Ro_dropInner (l : Launch) {G : rs_G} {Bm : Nat} {S : rs_Shp} {v0 : Nat} {σ : rs_Mem} {Q : rs_Mem → Prop} (h_v0 : rs_Ok S 8 v0) (hF : F_Ro_dropInner S.2.2 v0 σ Q) :
    Met l y_Ro_dropInner (rs_ws y_Ro_dropInner prog_8_method_3_code 1 none) { frames := 0, cells := 0, slots := 0, locals := 0 } (rs_P G Bm S σ [.ref (Bm + v0)]) (rs_Qv G Bm S Q) 0 0 (rs_A Bm) := by
  refine rs_met (own := "RouteSpeaker$Route") (by decide) rfl (Nat.le_of_ble_eq_true rfl) (fun p e s m below meth c ls C hl hH hT hS => ?_)
  replace hl : lv_has ls 1 [(0, .ref (Bm + v0))] := hl
  have hx := C.1
  have hb := C.2.1
  unfold F_Ro_dropInner at hF
  refine lv_aload_n hx hb d_Ro_dropInner_0 rfl (lv_at hl 0 rfl) ?_
  refine lv_bipush hx hb d_Ro_dropInner_1 kb_100 ?_
  refine rs_putI C hH hT hS h_v0 fk_8_5 rfl tw_81 d_Ro_dropInner_3 (fun σ51 H locs eσ51 hH hT hS => ?_)
  replace hF := hF σ51 eσ51
  refine lv_aload_n hx hb d_Ro_dropInner_6 rfl (lv_at hl 0 rfl) ?_
  refine lv_iconst hx hb d_Ro_dropInner_7 ki_0 ?_
  refine rs_putI C hH hT hS h_v0 fk_8_6 rfl tw_84 d_Ro_dropInner_8 (fun σ52 H locs eσ52 hH hT hS => ?_)
  replace hF := hF σ52 eσ52
  refine lv_aload_n hx hb d_Ro_dropInner_11 rfl (lv_at hl 0 rfl) ?_
  refine lv_iconst hx hb d_Ro_dropInner_12 ki_0 ?_
  refine rs_putI C hH hT hS h_v0 fk_8_7 rfl tw_86 d_Ro_dropInner_13 (fun σ53 H locs eσ53 hH hT hS => ?_)
  replace hF := hF σ53 eσ53
  exact rs_vret C hH hT hS hF d_Ro_dropInner_16
/-! RouteSpeaker$Route.clear()V -/
theorem d_Ro_clear_0 : decode prog_8_method_2_code 0 = .ok (.aload_n 0, 1) := by decide +kernel
theorem d_Ro_clear_1 : decode prog_8_method_2_code 1 = .ok (.iconst 0, 1) := by decide +kernel
theorem d_Ro_clear_2 : decode prog_8_method_2_code 2 = .ok (.putfield 25, 3) := by decide +kernel
theorem d_Ro_clear_5 : decode prog_8_method_2_code 5 = .ok (.aload_n 0, 1) := by decide +kernel
theorem d_Ro_clear_6 : decode prog_8_method_2_code 6 = .ok (.iconst 0, 1) := by decide +kernel
theorem d_Ro_clear_7 : decode prog_8_method_2_code 7 = .ok (.putfield 28, 3) := by decide +kernel
theorem d_Ro_clear_10 : decode prog_8_method_2_code 10 = .ok (.aload_n 0, 1) := by decide +kernel
theorem d_Ro_clear_11 : decode prog_8_method_2_code 11 = .ok (.iconst 0, 1) := by decide +kernel
theorem d_Ro_clear_12 : decode prog_8_method_2_code 12 = .ok (.putfield 31, 3) := by decide +kernel
theorem d_Ro_clear_15 : decode prog_8_method_2_code 15 = .ok (.aload_n 0, 1) := by decide +kernel
theorem d_Ro_clear_16 : decode prog_8_method_2_code 16 = .ok (.iconst (-1), 1) := by decide +kernel
theorem d_Ro_clear_17 : decode prog_8_method_2_code 17 = .ok (.putfield 15, 3) := by decide +kernel
theorem d_Ro_clear_20 : decode prog_8_method_2_code 20 = .ok (.aload_n 0, 1) := by decide +kernel
theorem d_Ro_clear_21 : decode prog_8_method_2_code 21 = .ok (.invokevirtual 34, 3) := by decide +kernel
theorem d_Ro_clear_24 : decode prog_8_method_2_code 24 = .ok (.return_, 1) := by decide +kernel
def F_Ro_clear (N : Nat → Nat) (v0 : Nat) (σ : rs_Mem) (Q : rs_Mem → Prop) : Prop :=
  (∀ σ51 : rs_Mem, σ51 = rs_sI σ v0 0 (0 : Int32) → (∀ σ52 : rs_Mem, σ52 = rs_sI σ51 v0 1 (0 : Int32) → (∀ σ53 : rs_Mem, σ53 = rs_sI σ52 v0 3 (0 : Int32) → (∀ σ54 : rs_Mem, σ54 = rs_sI σ53 v0 4 (-1 : Int32) → (F_Ro_dropInner N v0 σ54 (fun σ55 => (Q σ55)))))))
abbrev y_Ro_clear : MethodName := ({ cls := "RouteSpeaker$Route", name := "clear", desc := "()V" } : Jvm.MethodName)
theorem rc_Ro_clear : rs_Cal y_Ro_clear prog_8_method_2_code 1 none 0 := ⟨tw_737, tw_3, by decide, by decide, by decide +kernel⟩
set_option maxRecDepth 20000 in
theorem J_Ro_clear (l : Launch) {G : rs_G} {Bm : Nat} {S : rs_Shp} {v0 : Nat} {σ : rs_Mem} {Q : rs_Mem → Prop} (h_v0 : rs_Ok S 8 v0) (hF : F_Ro_clear S.2.2 v0 σ Q) :
    Met l y_Ro_clear (rs_ws y_Ro_clear prog_8_method_2_code 1 none) { frames := 1, cells := 0, slots := 0, locals := 20 } (rs_P G Bm S σ [.ref (Bm + v0)]) (rs_Qv G Bm S Q) 0 0 (rs_A Bm) := by
  refine rs_met (own := "RouteSpeaker$Route") (by decide) rfl (Nat.le_of_ble_eq_true rfl) (fun p e s m below meth c ls C hl hH hT hS => ?_)
  replace hl : lv_has ls 1 [(0, .ref (Bm + v0))] := hl
  have hx := C.1
  have hb := C.2.1
  unfold F_Ro_clear at hF
  refine lv_aload_n hx hb d_Ro_clear_0 rfl (lv_at hl 0 rfl) ?_
  refine lv_iconst hx hb d_Ro_clear_1 ki_0 ?_
  refine rs_putI C hH hT hS h_v0 fk_8_0 rfl tw_62 d_Ro_clear_2 (fun σ51 H locs eσ51 hH hT hS => ?_)
  replace hF := hF σ51 eσ51
  refine lv_aload_n hx hb d_Ro_clear_5 rfl (lv_at hl 0 rfl) ?_
  refine lv_iconst hx hb d_Ro_clear_6 ki_0 ?_
  refine rs_putI C hH hT hS h_v0 fk_8_1 rfl tw_66 d_Ro_clear_7 (fun σ52 H locs eσ52 hH hT hS => ?_)
  replace hF := hF σ52 eσ52
  refine lv_aload_n hx hb d_Ro_clear_10 rfl (lv_at hl 0 rfl) ?_
  refine lv_iconst hx hb d_Ro_clear_11 ki_0 ?_
  refine rs_putI C hH hT hS h_v0 fk_8_3 rfl tw_74 d_Ro_clear_12 (fun σ53 H locs eσ53 hH hT hS => ?_)
  replace hF := hF σ53 eσ53
  refine lv_aload_n hx hb d_Ro_clear_15 rfl (lv_at hl 0 rfl) ?_
  refine lv_iconst hx hb d_Ro_clear_16 ki_m1 ?_
  refine rs_putI C hH hT hS h_v0 fk_8_4 rfl tw_77 d_Ro_clear_17 (fun σ54 H locs eσ54 hH hT hS => ?_)
  replace hF := hF σ54 eσ54
  refine lv_aload_n hx hb d_Ro_clear_20 rfl (lv_at hl 0 rfl) ?_
  refine rs_cv (rs_runV C hH hT hl (J_Ro_dropInner l h_v0 hF) rc_Ro_dropInner tw_738 tw_739 tw_740 h_v0 ⟨rfl, by decide, by decide⟩ rfl ⟨⟨rfl, rfl⟩, by decide, by decide, by decide⟩ (Nat.le_of_ble_eq_true rfl) rfl d_Ro_clear_21) hS (fun σ55 H locs hH hT hS hF => ?_)
  exact rs_vret C hH hT hS hF d_Ro_clear_24
/-! RouteSpeaker$Update.clear()V -/
theorem d_Up_clear_0 : decode prog_10_method_7_code 0 = .ok (.aload_n 0, 1) := by decide +kernel
theorem d_Up_clear_1 : decode prog_10_method_7_code 1 = .ok (.getfield 12, 3) := by decide +kernel
theorem d_Up_clear_4 : decode prog_10_method_7_code 4 = .ok (.invokevirtual 77, 3) := by decide +kernel
theorem d_Up_clear_7 : decode prog_10_method_7_code 7 = .ok (.iconst 0, 1) := by decide +kernel
theorem d_Up_clear_8 : decode prog_10_method_7_code 8 = .ok (.istore_n 1, 1) := by decide +kernel
theorem d_Up_clear_9 : decode prog_10_method_7_code 9 = .ok (.iload_n 1, 1) := by decide +kernel
theorem d_Up_clear_10 : decode prog_10_method_7_code 10 = .ok (.aload_n 0, 1) := by decide +kernel
theorem d_Up_clear_11 : decode prog_10_method_7_code 11 = .ok (.getfield 18, 3) := by decide +kernel
theorem d_Up_clear_14 : decode prog_10_method_7_code 14 = .ok (.arraylength, 1) := by decide +kernel
theorem d_Up_clear_15 : decode prog_10_method_7_code 15 = .ok (.if_icmp .ge (16), 3) := by decide +kernel
theorem d_Up_clear_18 : decode prog_10_method_7_code 18 = .ok (.aload_n 0, 1) := by decide +kernel
theorem d_Up_clear_19 : decode prog_10_method_7_code 19 = .ok (.getfield 18, 3) := by decide +kernel
theorem d_Up_clear_22 : decode prog_10_method_7_code 22 = .ok (.iload_n 1, 1) := by decide +kernel
theorem d_Up_clear_23 : decode prog_10_method_7_code 23 = .ok (.iconst 0, 1) := by decide +kernel
theorem d_Up_clear_24 : decode prog_10_method_7_code 24 = .ok (.bastore, 1) := by decide +kernel
theorem d_Up_clear_25 : decode prog_10_method_7_code 25 = .ok (.iinc 1 (1), 3) := by decide +kernel
theorem d_Up_clear_28 : decode prog_10_method_7_code 28 = .ok (.goto (-19), 3) := by decide +kernel
theorem d_Up_clear_31 : decode prog_10_method_7_code 31 = .ok (.return_, 1) := by decide +kernel
def G_Up_clear_9 (N : Nat → Nat) (Q : rs_Mem → Prop) (K9 : Nat → Int32 → rs_Mem → Prop) (v0 : Nat) (x1 : Int32) (σ : rs_Mem) : Prop :=
  (((nI (N (rs_R σ v0 1))) ≤ x1 → (Q σ)) ∧ (¬ ((nI (N (rs_R σ v0 1))) ≤ x1) → (vp_in x1 (N (rs_R σ v0 1)) ∧ ∀ σ54 : rs_Mem, σ54 = rs_sI σ (rs_R σ v0 1) x1.toNatClampNeg (0 : Int32) → (∀ x55 : Int32, x55 = x1 + (1 : Int32) → (K9 v0 x55 σ54)))))
noncomputable def L_Up_clear_9 (N : Nat → Nat) (Q : rs_Mem → Prop) (n : Nat) : Nat → Int32 → rs_Mem → Prop := Nat.rec (motive := fun _ => Nat → Int32 → rs_Mem → Prop) (fun _ _ _ => False) (fun _ K => G_Up_clear_9 N Q K) n
def F_Up_clear (N : Nat → Nat) (v0 : Nat) (σ : rs_Mem) (Q : rs_Mem → Prop) : Prop :=
  (F_Ro_clear N (rs_R σ v0 0) σ (fun σ52 => (∃ n : Nat, L_Up_clear_9 N Q n v0 (0 : Int32) σ52)))
set_option maxRecDepth 20000 in
theorem JL_Up_clear_9 {p : Program} {l : Launch} {e : Env} {s : State} {m : MethodId} {args : Array Value} {below : List Frame} {meth : Method} {c : Code} {G : rs_G} {Bm : Nat} {S : rs_Shp} {Q : rs_Mem → Prop} (C : rs_C "RouteSpeaker$Update" prog_10_method_7_code 2 none G p s m meth c args) : ∀ n : Nat, ∀ (v0 : Nat) (x1 : Int32) (σ : rs_Mem) (H : Heap) (locs : List Loc) (ls : Array Slot), rs_Ok S 10 v0 → rs_H G Bm S σ H → rs_T S σ → va_S (rs_A Bm) s.heap H locs → lv_has ls 2 [(0, .ref (Bm + v0)), (1, .int x1)] → (L_Up_clear_9 S.2.2 Q n) v0 x1 σ → W p l e { frames := 2, cells := 0, slots := 0, locals := 40 } s m args below meth c H locs 0 0 (MQ below (rs_Qv G Bm S Q) args s 0 0 (rs_A Bm)) (F0 m 9 ls []) := by
  have hx := C.1
  have hb := C.2.1
  intro n
  induction n with
  | zero => intros; rename_i hF; exact hF.elim
  | succ n hK9 =>
    intro v0 x1 σ H locs ls h_v0 hH hT hS hl hF
    replace hF : G_Up_clear_9 S.2.2 Q (L_Up_clear_9 S.2.2 Q n) v0 x1 σ := hF
    unfold G_Up_clear_9 at hF
    refine lv_iload_n hx hb d_Up_clear_9 rfl (lv_at hl 1 rfl) ?_
    refine lv_aload_n hx hb d_Up_clear_10 rfl (lv_at hl 0 rfl) ?_
    refine rs_getR C hH hT h_v0 fk_10_1 tw_122 d_Up_clear_11 (fun h51 => ?_)
    refine rs_alen C hH h51 (by decide) d_Up_clear_14 ?_
    refine lv_icmp_ge hx hb d_Up_clear_15 (tgt := 31) rfl (fun hc => ?_) (fun hc => ?_)
    · replace hF := hF.1 hc
      exact rs_vret C hH hT hS hF d_Up_clear_31
    · replace hF := hF.2 hc
      refine lv_aload_n hx hb d_Up_clear_18 rfl (lv_at hl 0 rfl) ?_
      refine rs_getR C hH hT h_v0 fk_10_1 tw_122 d_Up_clear_19 (fun h52 => ?_)
      refine lv_iload_n hx hb d_Up_clear_22 rfl (lv_at hl 1 rfl) ?_
      refine lv_iconst hx hb d_Up_clear_23 ki_0 ?_
      obtain ⟨g53, hF⟩ := hF
      refine rs_zast C hH hT hS (by decide) h52 g53 d_Up_clear_24 (fun σ54 H locs eσ54 hH hT hS => ?_)
      replace hF := hF σ54 eσ54
      obtain ⟨x55, ex55⟩ : ∃ z : Int32, z = x1 + (1 : Int32) := ⟨_, rfl⟩
      replace hF := hF x55 ex55
      refine lv_iinc hx hb d_Up_clear_25 hl (k := 1) rfl (v := x55) (by rw [ki_1, ex55]) (by decide) (lv' := [(1, .int x55), (0, .ref (Bm + v0))]) rfl (fun ls hl => ?_)
      refine lv_goto hx hb d_Up_clear_28 (tgt := 9) rfl ?_
      exact hK9 v0 x55 σ54 _ _ _ h_v0 hH hT hS (lv_sub hl [1, 0] rfl) hF
abbrev y_Up_clear : MethodName := ({ cls := "RouteSpeaker$Update", name := "clear", desc := "()V" } : Jvm.MethodName)
theorem rc_Up_clear : rs_Cal y_Up_clear prog_10_method_7_code 2 none 0 := ⟨tw_733, tw_4, by decide, by decide, by decide +kernel⟩
set_option maxRecDepth 20000 in
theorem J_Up_clear (l : Launch) {G : rs_G} {Bm : Nat} {S : rs_Shp} {v0 : Nat} {σ : rs_Mem} {Q : rs_Mem → Prop} (h_v0 : rs_Ok S 10 v0) (hF : F_Up_clear S.2.2 v0 σ Q) :
    Met l y_Up_clear (rs_ws y_Up_clear prog_10_method_7_code 2 none) { frames := 2, cells := 0, slots := 0, locals := 40 } (rs_P G Bm S σ [.ref (Bm + v0)]) (rs_Qv G Bm S Q) 0 0 (rs_A Bm) := by
  refine rs_met (own := "RouteSpeaker$Update") (by decide) rfl (Nat.le_of_ble_eq_true rfl) (fun p e s m below meth c ls C hl hH hT hS => ?_)
  replace hl : lv_has ls 2 [(0, .ref (Bm + v0))] := hl
  have hx := C.1
  have hb := C.2.1
  unfold F_Up_clear at hF
  refine lv_aload_n hx hb d_Up_clear_0 rfl (lv_at hl 0 rfl) ?_
  refine rs_getR C hH hT h_v0 fk_10_0 tw_120 d_Up_clear_1 (fun h51 => ?_)
  refine rs_cv (rs_runV C hH hT hl (J_Ro_clear l h51 hF) rc_Ro_clear tw_734 tw_735 tw_736 h51 ⟨rfl, by decide, by decide⟩ rfl ⟨⟨rfl, rfl⟩, by decide, by decide, by decide⟩ (Nat.le_of_ble_eq_true rfl) rfl d_Up_clear_4) hS (fun σ52 H locs hH hT hS hF => ?_)
  refine lv_iconst hx hb d_Up_clear_7 ki_0 ?_
  refine lv_istore_n hx hb d_Up_clear_8 rfl hl (by decide) (lv' := [(1, .int (0 : Int32)), (0, .ref (Bm + v0))]) rfl (fun ls hl => ?_)
  obtain ⟨n, hF⟩ := hF
  exact JL_Up_clear_9 C n v0 (0 : Int32) σ52 _ _ _ h_v0 hH hT hS (lv_sub hl [1, 0] rfl) hF
/-! RouteSpeaker$Update.isFramed()Z -/
theorem d_Up_isFramed_0 : decode prog_10_method_8_code 0 = .ok (.aload_n 0, 1) := by decide +kernel
theorem d_Up_isFramed_1 : decode prog_10_method_8_code 1 = .ok (.aload_n 0, 1) := by decide +kernel
theorem d_Up_isFramed_2 : decode prog_10_method_8_code 2 = .ok (.getfield 22, 3) := by decide +kernel
theorem d_Up_isFramed_5 : decode prog_10_method_8_code 5 = .ok (.iconst 2, 1) := by decide +kernel
theorem d_Up_isFramed_6 : decode prog_10_method_8_code 6 = .ok (.iaload, 1) := by decide +kernel
theorem d_Up_isFramed_7 : decode prog_10_method_8_code 7 = .ok (.putfield 78, 3) := by decide +kernel
theorem d_Up_isFramed_10 : decode prog_10_method_8_code 10 = .ok (.iconst 3, 1) := by decide +kernel
theorem d_Up_isFramed_11 : decode prog_10_method_8_code 11 = .ok (.iconst 2, 1) := by decide +kernel
theorem d_Up_isFramed_12 : decode prog_10_method_8_code 12 = .ok (.aload_n 0, 1) := by decide +kernel
theorem d_Up_isFramed_13 : decode prog_10_method_8_code 13 = .ok (.getfield 78, 3) := by decide +kernel
theorem d_Up_isFramed_16 : decode prog_10_method_8_code 16 = .ok (.imul, 1) := by decide +kernel
theorem d_Up_isFramed_17 : decode prog_10_method_8_code 17 = .ok (.iadd, 1) := by decide +kernel
theorem d_Up_isFramed_18 : decode prog_10_method_8_code 18 = .ok (.istore_n 1, 1) := by decide +kernel
theorem d_Up_isFramed_19 : decode prog_10_method_8_code 19 = .ok (.iload_n 1, 1) := by decide +kernel
theorem d_Up_isFramed_20 : decode prog_10_method_8_code 20 = .ok (.aload_n 0, 1) := by decide +kernel
theorem d_Up_isFramed_21 : decode prog_10_method_8_code 21 = .ok (.getfield 26, 3) := by decide +kernel
theorem d_Up_isFramed_24 : decode prog_10_method_8_code 24 = .ok (.if_icmp .lt (5), 3) := by decide +kernel
theorem d_Up_isFramed_27 : decode prog_10_method_8_code 27 = .ok (.iconst 0, 1) := by decide +kernel
theorem d_Up_isFramed_28 : decode prog_10_method_8_code 28 = .ok (.ireturn, 1) := by decide +kernel
theorem d_Up_isFramed_29 : decode prog_10_method_8_code 29 = .ok (.aload_n 0, 1) := by decide +kernel
theorem d_Up_isFramed_30 : decode prog_10_method_8_code 30 = .ok (.iload_n 1, 1) := by decide +kernel
theorem d_Up_isFramed_31 : decode prog_10_method_8_code 31 = .ok (.iconst 1, 1) := by decide +kernel
theorem d_Up_isFramed_32 : decode prog_10_method_8_code 32 = .ok (.iadd, 1) := by decide +kernel
theorem d_Up_isFramed_33 : decode prog_10_method_8_code 33 = .ok (.putfield 37, 3) := by decide +kernel
theorem d_Up_isFramed_36 : decode prog_10_method_8_code 36 = .ok (.aload_n 0, 1) := by decide +kernel
theorem d_Up_isFramed_37 : decode prog_10_method_8_code 37 = .ok (.aload_n 0, 1) := by decide +kernel
theorem d_Up_isFramed_38 : decode prog_10_method_8_code 38 = .ok (.getfield 37, 3) := by decide +kernel
theorem d_Up_isFramed_41 : decode prog_10_method_8_code 41 = .ok (.aload_n 0, 1) := by decide +kernel
theorem d_Up_isFramed_42 : decode prog_10_method_8_code 42 = .ok (.getfield 22, 3) := by decide +kernel
theorem d_Up_isFramed_45 : decode prog_10_method_8_code 45 = .ok (.iload_n 1, 1) := by decide +kernel
theorem d_Up_isFramed_46 : decode prog_10_method_8_code 46 = .ok (.iaload, 1) := by decide +kernel
theorem d_Up_isFramed_47 : decode prog_10_method_8_code 47 = .ok (.iadd, 1) := by decide +kernel
theorem d_Up_isFramed_48 : decode prog_10_method_8_code 48 = .ok (.putfield 40, 3) := by decide +kernel
theorem d_Up_isFramed_51 : decode prog_10_method_8_code 51 = .ok (.aload_n 0, 1) := by decide +kernel
theorem d_Up_isFramed_52 : decode prog_10_method_8_code 52 = .ok (.getfield 40, 3) := by decide +kernel
theorem d_Up_isFramed_55 : decode prog_10_method_8_code 55 = .ok (.aload_n 0, 1) := by decide +kernel
theorem d_Up_isFramed_56 : decode prog_10_method_8_code 56 = .ok (.getfield 26, 3) := by decide +kernel
theorem d_Up_isFramed_59 : decode prog_10_method_8_code 59 = .ok (.if_icmp .gt (17), 3) := by decide +kernel
theorem d_Up_isFramed_62 : decode prog_10_method_8_code 62 = .ok (.aload_n 0, 1) := by decide +kernel
theorem d_Up_isFramed_63 : decode prog_10_method_8_code 63 = .ok (.getfield 26, 3) := by decide +kernel
theorem d_Up_isFramed_66 : decode prog_10_method_8_code 66 = .ok (.aload_n 0, 1) := by decide +kernel
theorem d_Up_isFramed_67 : decode prog_10_method_8_code 67 = .ok (.getfield 40, 3) := by decide +kernel
theorem d_Up_isFramed_70 : decode prog_10_method_8_code 70 = .ok (.isub, 1) := by decide +kernel
theorem d_Up_isFramed_71 : decode prog_10_method_8_code 71 = .ok (.iconst 2, 1) := by decide +kernel
theorem d_Up_isFramed_72 : decode prog_10_method_8_code 72 = .ok (.irem, 1) := by decide +kernel
theorem d_Up_isFramed_73 : decode prog_10_method_8_code 73 = .ok (.ifCond .eq (5), 3) := by decide +kernel
theorem d_Up_isFramed_76 : decode prog_10_method_8_code 76 = .ok (.iconst 0, 1) := by decide +kernel
theorem d_Up_isFramed_77 : decode prog_10_method_8_code 77 = .ok (.ireturn, 1) := by decide +kernel
theorem d_Up_isFramed_78 : decode prog_10_method_8_code 78 = .ok (.aload_n 0, 1) := by decide +kernel
theorem d_Up_isFramed_79 : decode prog_10_method_8_code 79 = .ok (.aload_n 0, 1) := by decide +kernel
theorem d_Up_isFramed_80 : decode prog_10_method_8_code 80 = .ok (.getfield 26, 3) := by decide +kernel
theorem d_Up_isFramed_83 : decode prog_10_method_8_code 83 = .ok (.aload_n 0, 1) := by decide +kernel
theorem d_Up_isFramed_84 : decode prog_10_method_8_code 84 = .ok (.getfield 40, 3) := by decide +kernel
theorem d_Up_isFramed_87 : decode prog_10_method_8_code 87 = .ok (.isub, 1) := by decide +kernel
theorem d_Up_isFramed_88 : decode prog_10_method_8_code 88 = .ok (.iconst 2, 1) := by decide +kernel
theorem d_Up_isFramed_89 : decode prog_10_method_8_code 89 = .ok (.idiv, 1) := by decide +kernel
theorem d_Up_isFramed_90 : decode prog_10_method_8_code 90 = .ok (.putfield 47, 3) := by decide +kernel
theorem d_Up_isFramed_93 : decode prog_10_method_8_code 93 = .ok (.aload_n 0, 1) := by decide +kernel
theorem d_Up_isFramed_94 : decode prog_10_method_8_code 94 = .ok (.getfield 37, 3) := by decide +kernel
theorem d_Up_isFramed_97 : decode prog_10_method_8_code 97 = .ok (.istore_n 2, 1) := by decide +kernel
theorem d_Up_isFramed_98 : decode prog_10_method_8_code 98 = .ok (.iload_n 2, 1) := by decide +kernel
theorem d_Up_isFramed_99 : decode prog_10_method_8_code 99 = .ok (.iconst 1, 1) := by decide +kernel
theorem d_Up_isFramed_100 : decode prog_10_method_8_code 100 = .ok (.iadd, 1) := by decide +kernel
theorem d_Up_isFramed_101 : decode prog_10_method_8_code 101 = .ok (.aload_n 0, 1) := by decide +kernel
theorem d_Up_isFramed_102 : decode prog_10_method_8_code 102 = .ok (.getfield 40, 3) := by decide +kernel
theorem d_Up_isFramed_105 : decode prog_10_method_8_code 105 = .ok (.if_icmp .ge (19), 3) := by decide +kernel
theorem d_Up_isFramed_108 : decode prog_10_method_8_code 108 = .ok (.iload_n 2, 1) := by decide +kernel
theorem d_Up_isFramed_109 : decode prog_10_method_8_code 109 = .ok (.iconst 2, 1) := by decide +kernel
theorem d_Up_isFramed_110 : decode prog_10_method_8_code 110 = .ok (.aload_n 0, 1) := by decide +kernel
theorem d_Up_isFramed_111 : decode prog_10_method_8_code 111 = .ok (.getfield 22, 3) := by decide +kernel
theorem d_Up_isFramed_114 : decode prog_10_method_8_code 114 = .ok (.iload_n 2, 1) := by decide +kernel
theorem d_Up_isFramed_115 : decode prog_10_method_8_code 115 = .ok (.iconst 1, 1) := by decide +kernel
theorem d_Up_isFramed_116 : decode prog_10_method_8_code 116 = .ok (.iadd, 1) := by decide +kernel
theorem d_Up_isFramed_117 : decode prog_10_method_8_code 117 = .ok (.iaload, 1) := by decide +kernel
theorem d_Up_isFramed_118 : decode prog_10_method_8_code 118 = .ok (.iadd, 1) := by decide +kernel
theorem d_Up_isFramed_119 : decode prog_10_method_8_code 119 = .ok (.iadd, 1) := by decide +kernel
theorem d_Up_isFramed_120 : decode prog_10_method_8_code 120 = .ok (.istore_n 2, 1) := by decide +kernel
theorem d_Up_isFramed_121 : decode prog_10_method_8_code 121 = .ok (.goto (-23), 3) := by decide +kernel
theorem d_Up_isFramed_124 : decode prog_10_method_8_code 124 = .ok (.iload_n 2, 1) := by decide +kernel
theorem d_Up_isFramed_125 : decode prog_10_method_8_code 125 = .ok (.aload_n 0, 1) := by decide +kernel
theorem d_Up_isFramed_126 : decode prog_10_method_8_code 126 = .ok (.getfield 40, 3) := by decide +kernel
theorem d_Up_isFramed_129 : decode prog_10_method_8_code 129 = .ok (.if_icmp .ne (7), 3) := by decide +kernel
theorem d_Up_isFramed_132 : decode prog_10_method_8_code 132 = .ok (.iconst 1, 1) := by decide +kernel
theorem d_Up_isFramed_133 : decode prog_10_method_8_code 133 = .ok (.goto (4), 3) := by decide +kernel
theorem d_Up_isFramed_136 : decode prog_10_method_8_code 136 = .ok (.iconst 0, 1) := by decide +kernel
theorem d_Up_isFramed_137 : decode prog_10_method_8_code 137 = .ok (.ireturn, 1) := by decide +kernel
def G_Up_isFramed_98 (N : Nat → Nat) (Q : Int32 → rs_Mem → Prop) (K98 : Nat → Int32 → rs_Mem → Prop) (v0 : Nat) (x2 : Int32) (σ : rs_Mem) : Prop :=
  (((rs_I σ v0 7) ≤ (x2 + (1 : Int32)) → ((¬ (x2 = (rs_I σ v0 7)) → (Q (0 : Int32) σ)) ∧ (x2 = (rs_I σ v0 7) → (Q (1 : Int32) σ)))) ∧ (¬ ((rs_I σ v0 7) ≤ (x2 + (1 : Int32))) → (vp_in (x2 + (1 : Int32)) (N (rs_R σ v0 2)) ∧ (∀ x53 : Int32, x53 = (x2 + ((2 : Int32) + (rs_I σ (rs_R σ v0 2) (x2 + (1 : Int32)).toNatClampNeg))) → (K98 v0 x53 σ)))))
noncomputable def L_Up_isFramed_98 (N : Nat → Nat) (Q : Int32 → rs_Mem → Prop) (n : Nat) : Nat → Int32 → rs_Mem → Prop := Nat.rec (motive := fun _ => Nat → Int32 → rs_Mem → Prop) (fun _ _ _ => False) (fun _ K => G_Up_isFramed_98 N Q K) n
def F_Up_isFramed (N : Nat → Nat) (v0 : Nat) (σ : rs_Mem) (Q : Int32 → rs_Mem → Prop) : Prop :=
  (vp_in (2 : Int32) (N (rs_R σ v0 2)) ∧ (∀ σ53 : rs_Mem, σ53 = rs_sI σ v0 4 (rs_I σ (rs_R σ v0 2) (2 : Int32).toNatClampNeg) → (∀ x54 : Int32, x54 = ((3 : Int32) + ((2 : Int32) * (rs_I σ53 v0 4))) → ((x54 < (rs_I σ53 v0 3) → (∀ σ55 : rs_Mem, σ55 = rs_sI σ53 v0 6 (x54 + (1 : Int32)) → (vp_in x54 (N (rs_R σ55 v0 2)) ∧ (∀ σ58 : rs_Mem, σ58 = rs_sI σ55 v0 7 ((rs_I σ55 v0 6) + (rs_I σ55 (rs_R σ55 v0 2) x54.toNatClampNeg)) → (((rs_I σ58 v0 3) < (rs_I σ58 v0 7) → (Q (0 : Int32) σ58)) ∧ (¬ ((rs_I σ58 v0 3) < (rs_I σ58 v0 7)) → (((((rs_I σ58 v0 3) - (rs_I σ58 v0 7)) - ((rs_I σ58 v0 3) - (rs_I σ58 v0 7)) / (2 : Int32) * (2 : Int32)) = 0 → (∀ σ59 : rs_Mem, σ59 = rs_sI σ58 v0 5 (((rs_I σ58 v0 3) - (rs_I σ58 v0 7)) / (2 : Int32)) → (∀ x60 : Int32, x60 = (rs_I σ59 v0 6) → (∃ n : Nat, L_Up_isFramed_98 N Q n v0 x60 σ59)))) ∧ (¬ ((((rs_I σ58 v0 3) - (rs_I σ58 v0 7)) - ((rs_I σ58 v0 3) - (rs_I σ58 v0 7)) / (2 : Int32) * (2 : Int32)) = 0) → (Q (0 : Int32) σ58))))))))) ∧ (¬ (x54 < (rs_I σ53 v0 3)) → (Q (0 : Int32) σ53))))))
set_option maxRecDepth 20000 in
theorem JL_Up_isFramed_98 {p : Program} {l : Launch} {e : Env} {s : State} {m : MethodId} {args : Array Value} {below : List Frame} {meth : Method} {c : Code} {G : rs_G} {Bm : Nat} {S : rs_Shp} {Q : Int32 → rs_Mem → Prop} (C : rs_C "RouteSpeaker$Update" prog_10_method_8_code 3 (some .boolean) G p s m meth c args) : ∀ n : Nat, ∀ (v0 : Nat) (x2 : Int32) (σ : rs_Mem) (H : Heap) (locs : List Loc) (ls : Array Slot), rs_Ok S 10 v0 → rs_H G Bm S σ H → rs_T S σ → va_S (rs_A Bm) s.heap H locs → lv_has ls 3 [(0, .ref (Bm + v0)), (2, .int x2)] → (L_Up_isFramed_98 S.2.2 Q n) v0 x2 σ → W p l e { frames := 0, cells := 0, slots := 0, locals := 0 } s m args below meth c H locs 0 0 (MQ below (rs_Qi G Bm S Q) args s 0 0 (rs_A Bm)) (F0 m 98 ls []) := by
  have hx := C.1
  have hb := C.2.1
  intro n
  induction n with
  | zero => intros; rename_i hF; exact hF.elim
  | succ n hK98 =>
    intro v0 x2 σ H locs ls h_v0 hH hT hS hl hF
    replace hF : G_Up_isFramed_98 S.2.2 Q (L_Up_isFramed_98 S.2.2 Q n) v0 x2 σ := hF
    unfold G_Up_isFramed_98 at hF
    refine lv_iload_n hx hb d_Up_isFramed_98 rfl (lv_at hl 1 rfl) ?_
    refine lv_iconst hx hb d_Up_isFramed_99 ki_1 ?_
    refine lv_iadd hx hb d_Up_isFramed_100 ?_
    refine lv_aload_n hx hb d_Up_isFramed_101 rfl (lv_at hl 0 rfl) ?_
    refine rs_getI C hH h_v0 fk_10_7 tw_130 d_Up_isFramed_102 ?_
    refine lv_icmp_ge hx hb d_Up_isFramed_105 (tgt := 124) rfl (fun hc => ?_) (fun hc => ?_)
    · replace hF := hF.1 hc
      refine lv_iload_n hx hb d_Up_isFramed_124 rfl (lv_at hl 1 rfl) ?_
      refine lv_aload_n hx hb d_Up_isFramed_125 rfl (lv_at hl 0 rfl) ?_
      refine rs_getI C hH h_v0 fk_10_7 tw_130 d_Up_isFramed_126 ?_
      refine lv_icmp_ne hx hb d_Up_isFramed_129 (tgt := 136) rfl (fun hc => ?_) (fun hc => ?_)
      · replace hF := hF.1 hc
        refine lv_iconst hx hb d_Up_isFramed_136 ki_0 ?_
        exact rs_zret C hH hT hS (by decide) hF d_Up_isFramed_137
      · replace hF := hF.2 hc
        refine lv_iconst hx hb d_Up_isFramed_132 ki_1 ?_
        refine lv_goto hx hb d_Up_isFramed_133 (tgt := 137) rfl ?_
        exact rs_zret C hH hT hS (by decide) hF d_Up_isFramed_137
    · replace hF := hF.2 hc
      refine lv_iload_n hx hb d_Up_isFramed_108 rfl (lv_at hl 1 rfl) ?_
      refine lv_iconst hx hb d_Up_isFramed_109 ki_2 ?_
      refine lv_aload_n hx hb d_Up_isFramed_110 rfl (lv_at hl 0 rfl) ?_
      refine rs_getR C hH hT h_v0 fk_10_2 tw_123 d_Up_isFramed_111 (fun h51 => ?_)
      refine lv_iload_n hx hb d_Up_isFramed_114 rfl (lv_at hl 1 rfl) ?_
      refine lv_iconst hx hb d_Up_isFramed_115 ki_1 ?_
      refine lv_iadd hx hb d_Up_isFramed_116 ?_
      obtain ⟨g52, hF⟩ := hF
      refine rs_iald C hH h51 g52 d_Up_isFramed_117 ?_
      refine lv_iadd hx hb d_Up_isFramed_118 ?_
      refine lv_iadd hx hb d_Up_isFramed_119 ?_
      refine lv_topi (fun x53 ex53 => ?_)
      replace hF := hF x53 ex53
      refine lv_istore_n hx hb d_Up_isFramed_120 rfl hl (by decide) (lv' := [(2, .int x53), (0, .ref (Bm + v0))]) rfl (fun ls hl => ?_)
      refine lv_goto hx hb d_Up_isFramed_121 (tgt := 98) rfl ?_
      exact hK98 v0 x53 σ _ _ _ h_v0 hH hT hS (lv_sub hl [1, 0] rfl) hF
abbrev y_Up_isFramed : MethodName := ({ cls := "RouteSpeaker$Update", name := "isFramed", desc := "()Z" } : Jvm.MethodName)
theorem rc_Up_isFramed : rs_Cal y_Up_isFramed prog_10_method_8_code 3 (some .boolean) 0 := ⟨tw_745, tw_4, by decide, by decide, by decide +kernel⟩
set_option maxRecDepth 20000 in
theorem J_Up_isFramed (l : Launch) {G : rs_G} {Bm : Nat} {S : rs_Shp} {v0 : Nat} {σ : rs_Mem} {Q : Int32 → rs_Mem → Prop} (h_v0 : rs_Ok S 10 v0) (hF : F_Up_isFramed S.2.2 v0 σ Q) :
    Met l y_Up_isFramed (rs_ws y_Up_isFramed prog_10_method_8_code 3 (some .boolean)) { frames := 0, cells := 0, slots := 0, locals := 0 } (rs_P G Bm S σ [.ref (Bm + v0)]) (rs_Qi G Bm S Q) 0 0 (rs_A Bm) := by
  refine rs_met (own := "RouteSpeaker$Update") (by decide) rfl (Nat.le_of_ble_eq_true rfl) (fun p e s m below meth c ls C hl hH hT hS => ?_)
  replace hl : lv_has ls 3 [(0, .ref (Bm + v0))] := hl
  have hx := C.1
  have hb := C.2.1
  unfold F_Up_isFramed at hF
  refine lv_aload_n hx hb d_Up_isFramed_0 rfl (lv_at hl 0 rfl) ?_
  refine lv_aload_n hx hb d_Up_isFramed_1 rfl (lv_at hl 0 rfl) ?_
  refine rs_getR C hH hT h_v0 fk_10_2 tw_123 d_Up_isFramed_2 (fun h51 => ?_)
  refine lv_iconst hx hb d_Up_isFramed_5 ki_2 ?_
  obtain ⟨g52, hF⟩ := hF
  refine rs_iald C hH h51 g52 d_Up_isFramed_6 ?_
  refine rs_putI C hH hT hS h_v0 fk_10_4 rfl tw_125 d_Up_isFramed_7 (fun σ53 H locs eσ53 hH hT hS => ?_)
  replace hF := hF σ53 eσ53
  refine lv_iconst hx hb d_Up_isFramed_10 ki_3 ?_
  refine lv_iconst hx hb d_Up_isFramed_11 ki_2 ?_
  refine lv_aload_n hx hb d_Up_isFramed_12 rfl (lv_at hl 0 rfl) ?_
  refine rs_getI C hH h_v0 fk_10_4 tw_125 d_Up_isFramed_13 ?_
  refine lv_imul hx hb d_Up_isFramed_16 ?_
  refine lv_iadd hx hb d_Up_isFramed_17 ?_
  refine lv_topi (fun x54 ex54 => ?_)
  replace hF := hF x54 ex54
  refine lv_istore_n hx hb d_Up_isFramed_18 rfl hl (by decide) (lv' := [(1, .int x54), (0, .ref (Bm + v0))]) rfl (fun ls hl => ?_)
  refine lv_iload_n hx hb d_Up_isFramed_19 rfl (lv_at hl 0 rfl) ?_
  refine lv_aload_n hx hb d_Up_isFramed_20 rfl (lv_at hl 1 rfl) ?_
  refine rs_getI C hH h_v0 fk_10_3 tw_124 d_Up_isFramed_21 ?_
  refine lv_icmp_lt hx hb d_Up_isFramed_24 (tgt := 29) rfl (fun hc => ?_) (fun hc => ?_)
  · replace hF := hF.1 hc
    refine lv_aload_n hx hb d_Up_isFramed_29 rfl (lv_at hl 1 rfl) ?_
    refine lv_iload_n hx hb d_Up_isFramed_30 rfl (lv_at hl 0 rfl) ?_
    refine lv_iconst hx hb d_Up_isFramed_31 ki_1 ?_
    refine lv_iadd hx hb d_Up_isFramed_32 ?_
    refine rs_putI C hH hT hS h_v0 fk_10_6 rfl tw_129 d_Up_isFramed_33 (fun σ55 H locs eσ55 hH hT hS => ?_)
    replace hF := hF σ55 eσ55
    refine lv_aload_n hx hb d_Up_isFramed_36 rfl (lv_at hl 1 rfl) ?_
    refine lv_aload_n hx hb d_Up_isFramed_37 rfl (lv_at hl 1 rfl) ?_
    refine rs_getI C hH h_v0 fk_10_6 tw_129 d_Up_isFramed_38 ?_
    refine lv_aload_n hx hb d_Up_isFramed_41 rfl (lv_at hl 1 rfl) ?_
    refine rs_getR C hH hT h_v0 fk_10_2 tw_123 d_Up_isFramed_42 (fun h56 => ?_)
    refine lv_iload_n hx hb d_Up_isFramed_45 rfl (lv_at hl 0 rfl) ?_
    obtain ⟨g57, hF⟩ := hF
    refine rs_iald C hH h56 g57 d_Up_isFramed_46 ?_
    refine lv_iadd hx hb d_Up_isFramed_47 ?_
    refine rs_putI C hH hT hS h_v0 fk_10_7 rfl tw_130 d_Up_isFramed_48 (fun σ58 H locs eσ58 hH hT hS => ?_)
    replace hF := hF σ58 eσ58
    refine lv_aload_n hx hb d_Up_isFramed_51 rfl (lv_at hl 1 rfl) ?_
    refine rs_getI C hH h_v0 fk_10_7 tw_130 d_Up_isFramed_52 ?_
    refine lv_aload_n hx hb d_Up_isFramed_55 rfl (lv_at hl 1 rfl) ?_
    refine rs_getI C hH h_v0 fk_10_3 tw_124 d_Up_isFramed_56 ?_
    refine lv_icmp_gt hx hb d_Up_isFramed_59 (tgt := 76) rfl (fun hc => ?_) (fun hc => ?_)
    · replace hF := hF.1 hc
      refine lv_iconst hx hb d_Up_isFramed_76 ki_0 ?_
      exact rs_zret C hH hT hS (by decide) hF d_Up_isFramed_77
    · replace hF := hF.2 hc
      refine lv_aload_n hx hb d_Up_isFramed_62 rfl (lv_at hl 1 rfl) ?_
      refine rs_getI C hH h_v0 fk_10_3 tw_124 d_Up_isFramed_63 ?_
      refine lv_aload_n hx hb d_Up_isFramed_66 rfl (lv_at hl 1 rfl) ?_
      refine rs_getI C hH h_v0 fk_10_7 tw_130 d_Up_isFramed_67 ?_
      refine lv_isub hx hb d_Up_isFramed_70 ?_
      refine lv_iconst hx hb d_Up_isFramed_71 ki_2 ?_
      refine lv_irem hx hb d_Up_isFramed_72 (by decide) ?_
      refine lv_if_eq hx hb d_Up_isFramed_73 (tgt := 78) rfl (fun hc => ?_) (fun hc => ?_)
      · replace hF := hF.1 hc
        refine lv_aload_n hx hb d_Up_isFramed_78 rfl (lv_at hl 1 rfl) ?_
        refine lv_aload_n hx hb d_Up_isFramed_79 rfl (lv_at hl 1 rfl) ?_
        refine rs_getI C hH h_v0 fk_10_3 tw_124 d_Up_isFramed_80 ?_
        refine lv_aload_n hx hb d_Up_isFramed_83 rfl (lv_at hl 1 rfl) ?_
        refine rs_getI C hH h_v0 fk_10_7 tw_130 d_Up_isFramed_84 ?_
        refine lv_isub hx hb d_Up_isFramed_87 ?_
        refine lv_iconst hx hb d_Up_isFramed_88 ki_2 ?_
        refine lv_idiv hx hb d_Up_isFramed_89 (by decide) ?_
        refine rs_putI C hH hT hS h_v0 fk_10_5 rfl tw_127 d_Up_isFramed_90 (fun σ59 H locs eσ59 hH hT hS => ?_)
        replace hF := hF σ59 eσ59
        refine lv_aload_n hx hb d_Up_isFramed_93 rfl (lv_at hl 1 rfl) ?_
        refine rs_getI C hH h_v0 fk_10_6 tw_129 d_Up_isFramed_94 ?_
        refine lv_topi (fun x60 ex60 => ?_)
        replace hF := hF x60 ex60
        refine lv_istore_n hx hb d_Up_isFramed_97 rfl hl (by decide) (lv' := [(2, .int x60), (1, .int x54), (0, .ref (Bm + v0))]) rfl (fun ls hl => ?_)
        obtain ⟨n, hF⟩ := hF
        exact JL_Up_isFramed_98 C n v0 x60 σ59 _ _ _ h_v0 hH hT hS (lv_sub hl [2, 0] rfl) hF
      · replace hF := hF.2 hc
        refine lv_iconst hx hb d_Up_isFramed_76 ki_0 ?_
        exact rs_zret C hH hT hS (by decide) hF d_Up_isFramed_77
  · replace hF := hF.2 hc
    refine lv_iconst hx hb d_Up_isFramed_27 ki_0 ?_
    exact rs_zret C hH hT hS (by decide) hF d_Up_isFramed_28
/-! RouteSpeaker$Update.listFault(II[I)I -/
theorem d_Up_listFault_0 : decode prog_10_method_11_code 0 = .ok (.iload_n 1, 1) := by decide +kernel
theorem d_Up_listFault_1 : decode prog_10_method_11_code 1 = .ok (.aload_n 3, 1) := by decide +kernel
theorem d_Up_listFault_2 : decode prog_10_method_11_code 2 = .ok (.arraylength, 1) := by decide +kernel
theorem d_Up_listFault_3 : decode prog_10_method_11_code 3 = .ok (.if_icmp .le (5), 3) := by decide +kernel
theorem d_Up_listFault_6 : decode prog_10_method_11_code 6 = .ok (.iconst 5, 1) := by decide +kernel
theorem d_Up_listFault_7 : decode prog_10_method_11_code 7 = .ok (.ireturn, 1) := by decide +kernel
theorem d_Up_listFault_8 : decode prog_10_method_11_code 8 = .ok (.iconst 0, 1) := by decide +kernel
theorem d_Up_listFault_9 : decode prog_10_method_11_code 9 = .ok (.istore 4, 2) := by decide +kernel
theorem d_Up_listFault_11 : decode prog_10_method_11_code 11 = .ok (.iconst 0, 1) := by decide +kernel
theorem d_Up_listFault_12 : decode prog_10_method_11_code 12 = .ok (.istore 5, 2) := by decide +kernel
theorem d_Up_listFault_14 : decode prog_10_method_11_code 14 = .ok (.iload 5, 2) := by decide +kernel
theorem d_Up_listFault_16 : decode prog_10_method_11_code 16 = .ok (.iload_n 1, 1) := by decide +kernel
theorem d_Up_listFault_17 : decode prog_10_method_11_code 17 = .ok (.if_icmp .ge (41), 3) := by decide +kernel
theorem d_Up_listFault_20 : decode prog_10_method_11_code 20 = .ok (.aload_n 3, 1) := by decide +kernel
theorem d_Up_listFault_21 : decode prog_10_method_11_code 21 = .ok (.iload 5, 2) := by decide +kernel
theorem d_Up_listFault_23 : decode prog_10_method_11_code 23 = .ok (.aload_n 0, 1) := by decide +kernel
theorem d_Up_listFault_24 : decode prog_10_method_11_code 24 = .ok (.getfield 22, 3) := by decide +kernel
theorem d_Up_listFault_27 : decode prog_10_method_11_code 27 = .ok (.iload_n 2, 1) := by decide +kernel
theorem d_Up_listFault_28 : decode prog_10_method_11_code 28 = .ok (.iload 5, 2) := by decide +kernel
theorem d_Up_listFault_30 : decode prog_10_method_11_code 30 = .ok (.iadd, 1) := by decide +kernel
theorem d_Up_listFault_31 : decode prog_10_method_11_code 31 = .ok (.iaload, 1) := by decide +kernel
theorem d_Up_listFault_32 : decode prog_10_method_11_code 32 = .ok (.iastore, 1) := by decide +kernel
theorem d_Up_listFault_33 : decode prog_10_method_11_code 33 = .ok (.aload_n 3, 1) := by decide +kernel
theorem d_Up_listFault_34 : decode prog_10_method_11_code 34 = .ok (.iload 5, 2) := by decide +kernel
theorem d_Up_listFault_36 : decode prog_10_method_11_code 36 = .ok (.iaload, 1) := by decide +kernel
theorem d_Up_listFault_37 : decode prog_10_method_11_code 37 = .ok (.invokestatic 111, 3) := by decide +kernel
theorem d_Up_listFault_40 : decode prog_10_method_11_code 40 = .ok (.ifCond .eq (8), 3) := by decide +kernel
theorem d_Up_listFault_43 : decode prog_10_method_11_code 43 = .ok (.iload 4, 2) := by decide +kernel
theorem d_Up_listFault_45 : decode prog_10_method_11_code 45 = .ok (.goto (5), 3) := by decide +kernel
theorem d_Up_listFault_48 : decode prog_10_method_11_code 48 = .ok (.bipush (11), 2) := by decide +kernel
theorem d_Up_listFault_50 : decode prog_10_method_11_code 50 = .ok (.istore 4, 2) := by decide +kernel
theorem d_Up_listFault_52 : decode prog_10_method_11_code 52 = .ok (.iinc 5 (1), 3) := by decide +kernel
theorem d_Up_listFault_55 : decode prog_10_method_11_code 55 = .ok (.goto (-41), 3) := by decide +kernel
theorem d_Up_listFault_58 : decode prog_10_method_11_code 58 = .ok (.iload 4, 2) := by decide +kernel
theorem d_Up_listFault_60 : decode prog_10_method_11_code 60 = .ok (.ireturn, 1) := by decide +kernel
def G_Up_listFault_14 (N : Nat → Nat) (Q : Int32 → rs_Mem → Prop) (K14 : Nat → Int32 → Int32 → Nat → Int32 → Int32 → rs_Mem → Prop) (v0 : Nat) (x1 : Int32) (x2 : Int32) (v3 : Nat) (x4 : Int32) (x5 : Int32) (σ : rs_Mem) : Prop :=
  ((x1 ≤ x5 → (Q x4 σ)) ∧ (¬ (x1 ≤ x5) → (vp_in (x2 + x5) (N (rs_R σ v0 2)) ∧ (vp_in x5 (N v3) ∧ ∀ σ54 : rs_Mem, σ54 = rs_sI σ v3 x5.toNatClampNeg (rs_I σ (rs_R σ v0 2) (x2 + x5).toNatClampNeg) → (vp_in x5 (N v3) ∧ (F_Sp_isNumber N (rs_I σ54 v3 x5.toNatClampNeg) σ54 (fun x57 σ56 => ((x57 = 0 → (∀ x58 : Int32, x58 = x5 + (1 : Int32) → (K14 v0 x1 x2 v3 (11 : Int32) x58 σ56))) ∧ (¬ (x57 = 0) → (∀ x58 : Int32, x58 = x5 + (1 : Int32) → (K14 v0 x1 x2 v3 x4 x58 σ56)))))))))))
noncomputable def L_Up_listFault_14 (N : Nat → Nat) (Q : Int32 → rs_Mem → Prop) (n : Nat) : Nat → Int32 → Int32 → Nat → Int32 → Int32 → rs_Mem → Prop := Nat.rec (motive := fun _ => Nat → Int32 → Int32 → Nat → Int32 → Int32 → rs_Mem → Prop) (fun _ _ _ _ _ _ _ => False) (fun _ K => G_Up_listFault_14 N Q K) n
def F_Up_listFault (N : Nat → Nat) (v0 : Nat) (x1 : Int32) (x2 : Int32) (v3 : Nat) (σ : rs_Mem) (Q : Int32 → rs_Mem → Prop) : Prop :=
  ((x1 ≤ (nI (N v3)) → (∃ n : Nat, L_Up_listFault_14 N Q n v0 x1 x2 v3 (0 : Int32) (0 : Int32) σ)) ∧ (¬ (x1 ≤ (nI (N v3))) → (Q (5 : Int32) σ)))
set_option maxRecDepth 20000 in
theorem JL_Up_listFault_14 {p : Program} {l : Launch} {e : Env} {s : State} {m : MethodId} {args : Array Value} {below : List Frame} {meth : Method} {c : Code} {G : rs_G} {Bm : Nat} {S : rs_Shp} {Q : Int32 → rs_Mem → Prop} (C : rs_C "RouteSpeaker$Update" prog_10_method_11_code 6 (some .int) G p s m meth c args) : ∀ n : Nat, ∀ (v0 : Nat) (x1 : Int32) (x2 : Int32) (v3 : Nat) (x4 : Int32) (x5 : Int32) (σ : rs_Mem) (H : Heap) (locs : List Loc) (ls : Array Slot), rs_Ok S 10 v0 → rs_Ok S 20 v3 → rs_H G Bm S σ H → rs_T S σ → va_S (rs_A Bm) s.heap H locs → lv_has ls 6 [(0, .ref (Bm + v0)), (1, .int x1), (2, .int x2), (3, .ref (Bm + v3)), (4, .int x4), (5, .int x5)] → (L_Up_listFault_14 S.2.2 Q n) v0 x1 x2 v3 x4 x5 σ → W p l e { frames := 1, cells := 0, slots := 0, locals := 20 } s m args below meth c H locs 0 0 (MQ below (rs_Qi G Bm S Q) args s 0 0 (rs_A Bm)) (F0 m 14 ls []) := by
  have hx := C.1
  have hb := C.2.1
  intro n
  induction n with
  | zero => intros; rename_i hF; exact hF.elim
  | succ n hK14 =>
    intro v0 x1 x2 v3 x4 x5 σ H locs ls h_v0 h_v3 hH hT hS hl hF
    replace hF : G_Up_listFault_14 S.2.2 Q (L_Up_listFault_14 S.2.2 Q n) v0 x1 x2 v3 x4 x5 σ := hF
    unfold G_Up_listFault_14 at hF
    refine lv_iload hx hb d_Up_listFault_14 (lv_at hl 5 rfl) ?_
    refine lv_iload_n hx hb d_Up_listFault_16 rfl (lv_at hl 1 rfl) ?_
    refine lv_icmp_ge hx hb d_Up_listFault_17 (tgt := 58) rfl (fun hc => ?_) (fun hc => ?_)
    · replace hF := hF.1 hc
      refine lv_iload hx hb d_Up_listFault_58 (lv_at hl 4 rfl) ?_
      exact rs_iret C hH hT hS hF d_Up_listFault_60
    · replace hF := hF.2 hc
      refine lv_aload_n hx hb d_Up_listFault_20 rfl (lv_at hl 3 rfl) ?_
      refine lv_iload hx hb d_Up_listFault_21 (lv_at hl 5 rfl) ?_
      refine lv_aload_n hx hb d_Up_listFault_23 rfl (lv_at hl 0 rfl) ?_
      refine rs_getR C hH hT h_v0 fk_10_2 tw_123 d_Up_listFault_24 (fun h51 => ?_)
      refine lv_iload_n hx hb d_Up_listFault_27 rfl (lv_at hl 2 rfl) ?_
      refine lv_iload hx hb d_Up_listFault_28 (lv_at hl 5 rfl) ?_
      refine lv_iadd hx hb d_Up_listFault_30 ?_
      obtain ⟨g52, hF⟩ := hF
      refine rs_iald C hH h51 g52 d_Up_listFault_31 ?_
      obtain ⟨g53, hF⟩ := hF
      refine rs_iast C hH hT hS h_v3 g53 d_Up_listFault_32 (fun σ54 H locs eσ54 hH hT hS => ?_)
      replace hF := hF σ54 eσ54
      refine lv_aload_n hx hb d_Up_listFault_33 rfl (lv_at hl 3 rfl) ?_
      refine lv_iload hx hb d_Up_listFault_34 (lv_at hl 5 rfl) ?_
      obtain ⟨g55, hF⟩ := hF
      refine rs_iald C hH h_v3 g55 d_Up_listFault_36 ?_
      refine rs_ci (rs_runSN C hH hT hl (J_Sp_isNumber l hF) rc_Sp_isNumber (host := "RouteSpeaker") nw_3 tw_597 rfl ⟨⟨rfl, rfl⟩, by decide, by decide, by decide⟩ (Nat.le_of_ble_eq_true rfl) rfl d_Up_listFault_37) hS (fun x57 σ56 H locs hH hT hS hF => ?_)
      refine lv_if_eq hx hb d_Up_listFault_40 (tgt := 48) rfl (fun hc => ?_) (fun hc => ?_)
      · replace hF := hF.1 hc
        refine lv_bipush hx hb d_Up_listFault_48 kb_11 ?_
        refine lv_istore hx hb d_Up_listFault_50 hl (by decide) (lv' := [(4, .int (11 : Int32)), (0, .ref (Bm + v0)), (1, .int x1), (2, .int x2), (3, .ref (Bm + v3)), (5, .int x5)]) rfl (fun ls hl => ?_)
        obtain ⟨x58, ex58⟩ : ∃ z : Int32, z = x5 + (1 : Int32) := ⟨_, rfl⟩
        replace hF := hF x58 ex58
        refine lv_iinc hx hb d_Up_listFault_52 hl (k := 5) rfl (v := x58) (by rw [ki_1, ex58]) (by decide) (lv' := [(5, .int x58), (4, .int (11 : Int32)), (0, .ref (Bm + v0)), (1, .int x1), (2, .int x2), (3, .ref (Bm + v3))]) rfl (fun ls hl => ?_)
        refine lv_goto hx hb d_Up_listFault_55 (tgt := 14) rfl ?_
        exact hK14 v0 x1 x2 v3 (11 : Int32) x58 σ56 _ _ _ h_v0 h_v3 hH hT hS (lv_sub hl [2, 3, 4, 5, 1, 0] rfl) hF
      · replace hF := hF.2 hc
        refine lv_iload hx hb d_Up_listFault_43 (lv_at hl 4 rfl) ?_
        refine lv_goto hx hb d_Up_listFault_45 (tgt := 50) rfl ?_
        refine lv_istore hx hb d_Up_listFault_50 hl (by decide) (lv' := [(4, .int x4), (0, .ref (Bm + v0)), (1, .int x1), (2, .int x2), (3, .ref (Bm + v3)), (5, .int x5)]) rfl (fun ls hl => ?_)
        obtain ⟨x58, ex58⟩ : ∃ z : Int32, z = x5 + (1 : Int32) := ⟨_, rfl⟩
        replace hF := hF x58 ex58
        refine lv_iinc hx hb d_Up_listFault_52 hl (k := 5) rfl (v := x58) (by rw [ki_1, ex58]) (by decide) (lv' := [(5, .int x58), (4, .int x4), (0, .ref (Bm + v0)), (1, .int x1), (2, .int x2), (3, .ref (Bm + v3))]) rfl (fun ls hl => ?_)
        refine lv_goto hx hb d_Up_listFault_55 (tgt := 14) rfl ?_
        exact hK14 v0 x1 x2 v3 x4 x58 σ56 _ _ _ h_v0 h_v3 hH hT hS (lv_sub hl [2, 3, 4, 5, 1, 0] rfl) hF
abbrev y_Up_listFault : MethodName := ({ cls := "RouteSpeaker$Update", name := "listFault", desc := "(II[I)I" } : Jvm.MethodName)
theorem rc_Up_listFault : rs_Cal y_Up_listFault prog_10_method_11_code 6 (some .int) 3 := ⟨tw_754, tw_4, by decide, by decide, by decide +kernel⟩
set_option maxRecDepth 20000 in
theorem J_Up_listFault (l : Launch) {G : rs_G} {Bm : Nat} {S : rs_Shp} {v0 : Nat} {x1 : Int32} {x2 : Int32} {v3 : Nat} {σ : rs_Mem} {Q : Int32 → rs_Mem → Prop} (h_v0 : rs_Ok S 10 v0) (h_v3 : rs_Ok S 20 v3) (hF : F_Up_listFault S.2.2 v0 x1 x2 v3 σ Q) :
    Met l y_Up_listFault (rs_ws y_Up_listFault prog_10_method_11_code 6 (some .int)) { frames := 1, cells := 0, slots := 0, locals := 20 } (rs_P G Bm S σ [.ref (Bm + v0), .int x1, .int x2, .ref (Bm + v3)]) (rs_Qi G Bm S Q) 0 0 (rs_A Bm) := by
  refine rs_met (own := "RouteSpeaker$Update") (by decide) rfl (Nat.le_of_ble_eq_true rfl) (fun p e s m below meth c ls C hl hH hT hS => ?_)
  replace hl : lv_has ls 6 [(0, .ref (Bm + v0)), (1, .int x1), (2, .int x2), (3, .ref (Bm + v3))] := hl
  have hx := C.1
  have hb := C.2.1
  unfold F_Up_listFault at hF
  refine lv_iload_n hx hb d_Up_listFault_0 rfl (lv_at hl 1 rfl) ?_
  refine lv_aload_n hx hb d_Up_listFault_1 rfl (lv_at hl 3 rfl) ?_
  refine rs_alen C hH h_v3 (by decide) d_Up_listFault_2 ?_
  refine lv_icmp_le hx hb d_Up_listFault_3 (tgt := 8) rfl (fun hc => ?_) (fun hc => ?_)
  · replace hF := hF.1 hc
    refine lv_iconst hx hb d_Up_listFault_8 ki_0 ?_
    refine lv_istore hx hb d_Up_listFault_9 hl (by decide) (lv' := [(4, .int (0 : Int32)), (0, .ref (Bm + v0)), (1, .int x1), (2, .int x2), (3, .ref (Bm + v3))]) rfl (fun ls hl => ?_)
    refine lv_iconst hx hb d_Up_listFault_11 ki_0 ?_
    refine lv_istore hx hb d_Up_listFault_12 hl (by decide) (lv' := [(5, .int (0 : Int32)), (4, .int (0 : Int32)), (0, .ref (Bm + v0)), (1, .int x1), (2, .int x2), (3, .ref (Bm + v3))]) rfl (fun ls hl => ?_)
    obtain ⟨n, hF⟩ := hF
    exact JL_Up_listFault_14 C n v0 x1 x2 v3 (0 : Int32) (0 : Int32) σ _ _ _ h_v0 h_v3 hH hT hS (lv_sub hl [2, 3, 4, 5, 1, 0] rfl) hF
  · replace hF := hF.2 hc
    refine lv_iconst hx hb d_Up_listFault_6 ki_5 ?_
    exact rs_iret C hH hT hS hF d_Up_listFault_7
/-! RouteSpeaker$Update.valueFault(II)I -/
theorem d_Up_valueFault_0 : decode prog_10_method_10_code 0 = .ok (.iload_n 1, 1) := by decide +kernel
theorem d_Up_valueFault_1 : decode prog_10_method_10_code 1 = .ok (.tableswitch (103) (1) (5) #[35, 103, 55, 83, 93], 35) := by decide +kernel
theorem d_Up_valueFault_36 : decode prog_10_method_10_code 36 = .ok (.aload_n 0, 1) := by decide +kernel
theorem d_Up_valueFault_37 : decode prog_10_method_10_code 37 = .ok (.getfield 12, 3) := by decide +kernel
theorem d_Up_valueFault_40 : decode prog_10_method_10_code 40 = .ok (.iload_n 2, 1) := by decide +kernel
theorem d_Up_valueFault_41 : decode prog_10_method_10_code 41 = .ok (.putfield 105, 3) := by decide +kernel
theorem d_Up_valueFault_44 : decode prog_10_method_10_code 44 = .ok (.iload_n 2, 1) := by decide +kernel
theorem d_Up_valueFault_45 : decode prog_10_method_10_code 45 = .ok (.iconst 2, 1) := by decide +kernel
theorem d_Up_valueFault_46 : decode prog_10_method_10_code 46 = .ok (.if_icmp .gt (7), 3) := by decide +kernel
theorem d_Up_valueFault_49 : decode prog_10_method_10_code 49 = .ok (.iconst 0, 1) := by decide +kernel
theorem d_Up_valueFault_50 : decode prog_10_method_10_code 50 = .ok (.goto (5), 3) := by decide +kernel
theorem d_Up_valueFault_53 : decode prog_10_method_10_code 53 = .ok (.bipush (6), 2) := by decide +kernel
theorem d_Up_valueFault_55 : decode prog_10_method_10_code 55 = .ok (.ireturn, 1) := by decide +kernel
theorem d_Up_valueFault_56 : decode prog_10_method_10_code 56 = .ok (.aload_n 0, 1) := by decide +kernel
theorem d_Up_valueFault_57 : decode prog_10_method_10_code 57 = .ok (.getfield 12, 3) := by decide +kernel
theorem d_Up_valueFault_60 : decode prog_10_method_10_code 60 = .ok (.iload_n 2, 1) := by decide +kernel
theorem d_Up_valueFault_61 : decode prog_10_method_10_code 61 = .ok (.putfield 108, 3) := by decide +kernel
theorem d_Up_valueFault_64 : decode prog_10_method_10_code 64 = .ok (.iload_n 2, 1) := by decide +kernel
theorem d_Up_valueFault_65 : decode prog_10_method_10_code 65 = .ok (.invokestatic 111, 3) := by decide +kernel
theorem d_Up_valueFault_68 : decode prog_10_method_10_code 68 = .ok (.ifCond .eq (13), 3) := by decide +kernel
theorem d_Up_valueFault_71 : decode prog_10_method_10_code 71 = .ok (.iload_n 2, 1) := by decide +kernel
theorem d_Up_valueFault_72 : decode prog_10_method_10_code 72 = .ok (.bipush (7), 2) := by decide +kernel
theorem d_Up_valueFault_74 : decode prog_10_method_10_code 74 = .ok (.if_icmp .eq (7), 3) := by decide +kernel
theorem d_Up_valueFault_77 : decode prog_10_method_10_code 77 = .ok (.iconst 0, 1) := by decide +kernel
theorem d_Up_valueFault_78 : decode prog_10_method_10_code 78 = .ok (.goto (5), 3) := by decide +kernel
theorem d_Up_valueFault_81 : decode prog_10_method_10_code 81 = .ok (.bipush (8), 2) := by decide +kernel
theorem d_Up_valueFault_83 : decode prog_10_method_10_code 83 = .ok (.ireturn, 1) := by decide +kernel
theorem d_Up_valueFault_84 : decode prog_10_method_10_code 84 = .ok (.aload_n 0, 1) := by decide +kernel
theorem d_Up_valueFault_85 : decode prog_10_method_10_code 85 = .ok (.getfield 12, 3) := by decide +kernel
theorem d_Up_valueFault_88 : decode prog_10_method_10_code 88 = .ok (.iload_n 2, 1) := by decide +kernel
theorem d_Up_valueFault_89 : decode prog_10_method_10_code 89 = .ok (.putfield 114, 3) := by decide +kernel
theorem d_Up_valueFault_92 : decode prog_10_method_10_code 92 = .ok (.iconst 0, 1) := by decide +kernel
theorem d_Up_valueFault_93 : decode prog_10_method_10_code 93 = .ok (.ireturn, 1) := by decide +kernel
theorem d_Up_valueFault_94 : decode prog_10_method_10_code 94 = .ok (.aload_n 0, 1) := by decide +kernel
theorem d_Up_valueFault_95 : decode prog_10_method_10_code 95 = .ok (.getfield 12, 3) := by decide +kernel
theorem d_Up_valueFault_98 : decode prog_10_method_10_code 98 = .ok (.iload_n 2, 1) := by decide +kernel
theorem d_Up_valueFault_99 : decode prog_10_method_10_code 99 = .ok (.putfield 117, 3) := by decide +kernel
theorem d_Up_valueFault_102 : decode prog_10_method_10_code 102 = .ok (.iconst 0, 1) := by decide +kernel
theorem d_Up_valueFault_103 : decode prog_10_method_10_code 103 = .ok (.ireturn, 1) := by decide +kernel
theorem d_Up_valueFault_104 : decode prog_10_method_10_code 104 = .ok (.aload_n 0, 1) := by decide +kernel
theorem d_Up_valueFault_105 : decode prog_10_method_10_code 105 = .ok (.getfield 12, 3) := by decide +kernel
theorem d_Up_valueFault_108 : decode prog_10_method_10_code 108 = .ok (.iload_n 2, 1) := by decide +kernel
theorem d_Up_valueFault_109 : decode prog_10_method_10_code 109 = .ok (.putfield 120, 3) := by decide +kernel
theorem d_Up_valueFault_112 : decode prog_10_method_10_code 112 = .ok (.iload_n 2, 1) := by decide +kernel
theorem d_Up_valueFault_113 : decode prog_10_method_10_code 113 = .ok (.invokestatic 111, 3) := by decide +kernel
theorem d_Up_valueFault_116 : decode prog_10_method_10_code 116 = .ok (.ifCond .eq (7), 3) := by decide +kernel
theorem d_Up_valueFault_119 : decode prog_10_method_10_code 119 = .ok (.iconst 0, 1) := by decide +kernel
theorem d_Up_valueFault_120 : decode prog_10_method_10_code 120 = .ok (.goto (5), 3) := by decide +kernel
theorem d_Up_valueFault_123 : decode prog_10_method_10_code 123 = .ok (.bipush (9), 2) := by decide +kernel
theorem d_Up_valueFault_125 : decode prog_10_method_10_code 125 = .ok (.ireturn, 1) := by decide +kernel
def F_Up_valueFault (N : Nat → Nat) (v0 : Nat) (x1 : Int32) (x2 : Int32) (σ : rs_Mem) (Q : Int32 → rs_Mem → Prop) : Prop :=
  (((x1.toInt < 1 ∨ 5 < x1.toInt) → (∀ σ52 : rs_Mem, σ52 = rs_sI σ (rs_R σ v0 0) 6 x2 → (F_Sp_isNumber N x2 σ52 (fun x54 σ53 => ((x54 = 0 → (Q (9 : Int32) σ53)) ∧ (¬ (x54 = 0) → (Q (0 : Int32) σ53))))))) ∧ (x1 = 1 → (∀ σ52 : rs_Mem, σ52 = rs_sI σ (rs_R σ v0 0) 0 x2 → (((2 : Int32) < x2 → (Q (6 : Int32) σ52)) ∧ (¬ ((2 : Int32) < x2) → (Q (0 : Int32) σ52))))) ∧ (x1 = 2 → (∀ σ52 : rs_Mem, σ52 = rs_sI σ (rs_R σ v0 0) 6 x2 → (F_Sp_isNumber N x2 σ52 (fun x54 σ53 => ((x54 = 0 → (Q (9 : Int32) σ53)) ∧ (¬ (x54 = 0) → (Q (0 : Int32) σ53))))))) ∧ (x1 = 3 → (∀ σ52 : rs_Mem, σ52 = rs_sI σ (rs_R σ v0 0) 3 x2 → (F_Sp_isNumber N x2 σ52 (fun x54 σ53 => ((x54 = 0 → (Q (8 : Int32) σ53)) ∧ (¬ (x54 = 0) → ((x2 = (7 : Int32) → (Q (8 : Int32) σ53)) ∧ (¬ (x2 = (7 : Int32)) → (Q (0 : Int32) σ53))))))))) ∧ (x1 = 4 → (∀ σ52 : rs_Mem, σ52 = rs_sI σ (rs_R σ v0 0) 4 x2 → (Q (0 : Int32) σ52))) ∧ (x1 = 5 → (∀ σ52 : rs_Mem, σ52 = rs_sI σ (rs_R σ v0 0) 5 x2 → (Q (0 : Int32) σ52))))
abbrev y_Up_valueFault : MethodName := ({ cls := "RouteSpeaker$Update", name := "valueFault", desc := "(II)I" } : Jvm.MethodName)
theorem rc_Up_valueFault : rs_Cal y_Up_valueFault prog_10_method_10_code 3 (some .int) 2 := ⟨tw_759, tw_4, by decide, by decide, by decide +kernel⟩
set_option maxRecDepth 20000 in
theorem J_Up_valueFault (l : Launch) {G : rs_G} {Bm : Nat} {S : rs_Shp} {v0 : Nat} {x1 : Int32} {x2 : Int32} {σ : rs_Mem} {Q : Int32 → rs_Mem → Prop} (h_v0 : rs_Ok S 10 v0) (hF : F_Up_valueFault S.2.2 v0 x1 x2 σ Q) :
    Met l y_Up_valueFault (rs_ws y_Up_valueFault prog_10_method_10_code 3 (some .int)) { frames := 1, cells := 0, slots := 0, locals := 20 } (rs_P G Bm S σ [.ref (Bm + v0), .int x1, .int x2]) (rs_Qi G Bm S Q) 0 0 (rs_A Bm) := by
  refine rs_met (own := "RouteSpeaker$Update") (by decide) rfl (Nat.le_of_ble_eq_true rfl) (fun p e s m below meth c ls C hl hH hT hS => ?_)
  replace hl : lv_has ls 3 [(0, .ref (Bm + v0)), (1, .int x1), (2, .int x2)] := hl
  have hx := C.1
  have hb := C.2.1
  unfold F_Up_valueFault at hF
  refine lv_iload_n hx hb d_Up_valueFault_0 rfl (lv_at hl 1 rfl) ?_
  rcases rs_sw_1_5 x1 with hc | hc | hc | hc | hc | hc
  · replace hF := hF.1 hc
    refine lv_tableOut hx hb d_Up_valueFault_1 hc (tgt := 104) rfl ?_
    refine lv_aload_n hx hb d_Up_valueFault_104 rfl (lv_at hl 0 rfl) ?_
    refine rs_getR C hH hT h_v0 fk_10_0 tw_120 d_Up_valueFault_105 (fun h51 => ?_)
    refine lv_iload_n hx hb d_Up_valueFault_108 rfl (lv_at hl 2 rfl) ?_
    refine rs_putI C hH hT hS h51 fk_8_6 rfl tw_85 d_Up_valueFault_109 (fun σ52 H locs eσ52 hH hT hS => ?_)
    replace hF := hF σ52 eσ52
    refine lv_iload_n hx hb d_Up_valueFault_112 rfl (lv_at hl 2 rfl) ?_
    refine rs_ci (rs_runSN C hH hT hl (J_Sp_isNumber l hF) rc_Sp_isNumber (host := "RouteSpeaker") nw_3 tw_597 rfl ⟨⟨rfl, rfl⟩, by decide, by decide, by decide⟩ (Nat.le_of_ble_eq_true rfl) rfl d_Up_valueFault_113) hS (fun x54 σ53 H locs hH hT hS hF => ?_)
    refine lv_if_eq hx hb d_Up_valueFault_116 (tgt := 123) rfl (fun hc => ?_) (fun hc => ?_)
    · replace hF := hF.1 hc
      refine lv_bipush hx hb d_Up_valueFault_123 kb_9 ?_
      exact rs_iret C hH hT hS hF d_Up_valueFault_125
    · replace hF := hF.2 hc
      refine lv_iconst hx hb d_Up_valueFault_119 ki_0 ?_
      refine lv_goto hx hb d_Up_valueFault_120 (tgt := 125) rfl ?_
      exact rs_iret C hH hT hS hF d_Up_valueFault_125
  · replace hF := hF.2.1 hc
    refine lv_tableIn hx hb d_Up_valueFault_1 (by rw [hc]; decide) (by rw [hc]; decide) (off := 35) (by rw [hc]; rfl) (tgt := 36) rfl ?_
    refine lv_aload_n hx hb d_Up_valueFault_36 rfl (lv_at hl 0 rfl) ?_
    refine rs_getR C hH hT h_v0 fk_10_0 tw_120 d_Up_valueFault_37 (fun h51 => ?_)
    refine lv_iload_n hx hb d_Up_valueFault_40 rfl (lv_at hl 2 rfl) ?_
    refine rs_putI C hH hT hS h51 fk_8_0 rfl tw_65 d_Up_valueFault_41 (fun σ52 H locs eσ52 hH hT hS => ?_)
    replace hF := hF σ52 eσ52
    refine lv_iload_n hx hb d_Up_valueFault_44 rfl (lv_at hl 2 rfl) ?_
    refine lv_iconst hx hb d_Up_valueFault_45 ki_2 ?_
    refine lv_icmp_gt hx hb d_Up_valueFault_46 (tgt := 53) rfl (fun hc => ?_) (fun hc => ?_)
    · replace hF := hF.1 hc
      refine lv_bipush hx hb d_Up_valueFault_53 kb_6 ?_
      exact rs_iret C hH hT hS hF d_Up_valueFault_55
    · replace hF := hF.2 hc
      refine lv_iconst hx hb d_Up_valueFault_49 ki_0 ?_
      refine lv_goto hx hb d_Up_valueFault_50 (tgt := 55) rfl ?_
      exact rs_iret C hH hT hS hF d_Up_valueFault_55
  · replace hF := hF.2.2.1 hc
    refine lv_tableIn hx hb d_Up_valueFault_1 (by rw [hc]; decide) (by rw [hc]; decide) (off := 103) (by rw [hc]; rfl) (tgt := 104) rfl ?_
    refine lv_aload_n hx hb d_Up_valueFault_104 rfl (lv_at hl 0 rfl) ?_
    refine rs_getR C hH hT h_v0 fk_10_0 tw_120 d_Up_valueFault_105 (fun h51 => ?_)
    refine lv_iload_n hx hb d_Up_valueFault_108 rfl (lv_at hl 2 rfl) ?_
    refine rs_putI C hH hT hS h51 fk_8_6 rfl tw_85 d_Up_valueFault_109 (fun σ52 H locs eσ52 hH hT hS => ?_)
    replace hF := hF σ52 eσ52
    refine lv_iload_n hx hb d_Up_valueFault_112 rfl (lv_at hl 2 rfl) ?_
    refine rs_ci (rs_runSN C hH hT hl (J_Sp_isNumber l hF) rc_Sp_isNumber (host := "RouteSpeaker") nw_3 tw_597 rfl ⟨⟨rfl, rfl⟩, by decide, by decide, by decide⟩ (Nat.le_of_ble_eq_true rfl) rfl d_Up_valueFault_113) hS (fun x54 σ53 H locs hH hT hS hF => ?_)
    refine lv_if_eq hx hb d_Up_valueFault_116 (tgt := 123) rfl (fun hc => ?_) (fun hc => ?_)
    · replace hF := hF.1 hc
      refine lv_bipush hx hb d_Up_valueFault_123 kb_9 ?_
      exact rs_iret C hH hT hS hF d_Up_valueFault_125
    · replace hF := hF.2 hc
      refine lv_iconst hx hb d_Up_valueFault_119 ki_0 ?_
      refine lv_goto hx hb d_Up_valueFault_120 (tgt := 125) rfl ?_
      exact rs_iret C hH hT hS hF d_Up_valueFault_125
  · replace hF := hF.2.2.2.1 hc
    refine lv_tableIn hx hb d_Up_valueFault_1 (by rw [hc]; decide) (by rw [hc]; decide) (off := 55) (by rw [hc]; rfl) (tgt := 56) rfl ?_
    refine lv_aload_n hx hb d_Up_valueFault_56 rfl (lv_at hl 0 rfl) ?_
    refine rs_getR C hH hT h_v0 fk_10_0 tw_120 d_Up_valueFault_57 (fun h51 => ?_)
    refine lv_iload_n hx hb d_Up_valueFault_60 rfl (lv_at hl 2 rfl) ?_
    refine rs_putI C hH hT hS h51 fk_8_3 rfl tw_76 d_Up_valueFault_61 (fun σ52 H locs eσ52 hH hT hS => ?_)
    replace hF := hF σ52 eσ52
    refine lv_iload_n hx hb d_Up_valueFault_64 rfl (lv_at hl 2 rfl) ?_
    refine rs_ci (rs_runSN C hH hT hl (J_Sp_isNumber l hF) rc_Sp_isNumber (host := "RouteSpeaker") nw_3 tw_597 rfl ⟨⟨rfl, rfl⟩, by decide, by decide, by decide⟩ (Nat.le_of_ble_eq_true rfl) rfl d_Up_valueFault_65) hS (fun x54 σ53 H locs hH hT hS hF => ?_)
    refine lv_if_eq hx hb d_Up_valueFault_68 (tgt := 81) rfl (fun hc => ?_) (fun hc => ?_)
    · replace hF := hF.1 hc
      refine lv_bipush hx hb d_Up_valueFault_81 kb_8 ?_
      exact rs_iret C hH hT hS hF d_Up_valueFault_83
    · replace hF := hF.2 hc
      refine lv_iload_n hx hb d_Up_valueFault_71 rfl (lv_at hl 2 rfl) ?_
      refine lv_bipush hx hb d_Up_valueFault_72 kb_7 ?_
      refine lv_icmp_eq hx hb d_Up_valueFault_74 (tgt := 81) rfl (fun hc => ?_) (fun hc => ?_)
      · replace hF := hF.1 hc
        refine lv_bipush hx hb d_Up_valueFault_81 kb_8 ?_
        exact rs_iret C hH hT hS hF d_Up_valueFault_83
      · replace hF := hF.2 hc
        refine lv_iconst hx hb d_Up_valueFault_77 ki_0 ?_
        refine lv_goto hx hb d_Up_valueFault_78 (tgt := 83) rfl ?_
        exact rs_iret C hH hT hS hF d_Up_valueFault_83
  · replace hF := hF.2.2.2.2.1 hc
    refine lv_tableIn hx hb d_Up_valueFault_1 (by rw [hc]; decide) (by rw [hc]; decide) (off := 83) (by rw [hc]; rfl) (tgt := 84) rfl ?_
    refine lv_aload_n hx hb d_Up_valueFault_84 rfl (lv_at hl 0 rfl) ?_
    refine rs_getR C hH hT h_v0 fk_10_0 tw_120 d_Up_valueFault_85 (fun h51 => ?_)
    refine lv_iload_n hx hb d_Up_valueFault_88 rfl (lv_at hl 2 rfl) ?_
    refine rs_putI C hH hT hS h51 fk_8_4 rfl tw_80 d_Up_valueFault_89 (fun σ52 H locs eσ52 hH hT hS => ?_)
    replace hF := hF σ52 eσ52
    refine lv_iconst hx hb d_Up_valueFault_92 ki_0 ?_
    exact rs_iret C hH hT hS hF d_Up_valueFault_93
  · replace hF := hF.2.2.2.2.2 hc
    refine lv_tableIn hx hb d_Up_valueFault_1 (by rw [hc]; decide) (by rw [hc]; decide) (off := 93) (by rw [hc]; rfl) (tgt := 94) rfl ?_
    refine lv_aload_n hx hb d_Up_valueFault_94 rfl (lv_at hl 0 rfl) ?_
    refine rs_getR C hH hT h_v0 fk_10_0 tw_120 d_Up_valueFault_95 (fun h51 => ?_)
    refine lv_iload_n hx hb d_Up_valueFault_98 rfl (lv_at hl 2 rfl) ?_
    refine rs_putI C hH hT hS h51 fk_8_5 rfl tw_82 d_Up_valueFault_99 (fun σ52 H locs eσ52 hH hT hS => ?_)
    replace hF := hF σ52 eσ52
    refine lv_iconst hx hb d_Up_valueFault_102 ki_0 ?_
    exact rs_iret C hH hT hS hF d_Up_valueFault_103
/-! RouteSpeaker$Update.attributeFault(III)I -/
theorem d_Up_attributeFault_0 : decode prog_10_method_9_code 0 = .ok (.aload_n 0, 1) := by decide +kernel
theorem d_Up_attributeFault_1 : decode prog_10_method_9_code 1 = .ok (.getfield 18, 3) := by decide +kernel
theorem d_Up_attributeFault_4 : decode prog_10_method_9_code 4 = .ok (.iload_n 1, 1) := by decide +kernel
theorem d_Up_attributeFault_5 : decode prog_10_method_9_code 5 = .ok (.baload, 1) := by decide +kernel
theorem d_Up_attributeFault_6 : decode prog_10_method_9_code 6 = .ok (.ifCond .eq (5), 3) := by decide +kernel
theorem d_Up_attributeFault_9 : decode prog_10_method_9_code 9 = .ok (.iconst 1, 1) := by decide +kernel
theorem d_Up_attributeFault_10 : decode prog_10_method_9_code 10 = .ok (.ireturn, 1) := by decide +kernel
theorem d_Up_attributeFault_11 : decode prog_10_method_9_code 11 = .ok (.aload_n 0, 1) := by decide +kernel
theorem d_Up_attributeFault_12 : decode prog_10_method_9_code 12 = .ok (.getfield 18, 3) := by decide +kernel
theorem d_Up_attributeFault_15 : decode prog_10_method_9_code 15 = .ok (.iload_n 1, 1) := by decide +kernel
theorem d_Up_attributeFault_16 : decode prog_10_method_9_code 16 = .ok (.iconst 1, 1) := by decide +kernel
theorem d_Up_attributeFault_17 : decode prog_10_method_9_code 17 = .ok (.bastore, 1) := by decide +kernel
theorem d_Up_attributeFault_18 : decode prog_10_method_9_code 18 = .ok (.iload_n 1, 1) := by decide +kernel
theorem d_Up_attributeFault_19 : decode prog_10_method_9_code 19 = .ok (.sipush (128), 3) := by decide +kernel
theorem d_Up_attributeFault_22 : decode prog_10_method_9_code 22 = .ok (.if_icmp .lt (5), 3) := by decide +kernel
theorem d_Up_attributeFault_25 : decode prog_10_method_9_code 25 = .ok (.iconst 0, 1) := by decide +kernel
theorem d_Up_attributeFault_26 : decode prog_10_method_9_code 26 = .ok (.ireturn, 1) := by decide +kernel
theorem d_Up_attributeFault_27 : decode prog_10_method_9_code 27 = .ok (.iload_n 1, 1) := by decide +kernel
theorem d_Up_attributeFault_28 : decode prog_10_method_9_code 28 = .ok (.tableswitch (131) (1) (10) #[110, 56, 110, 110, 110, 131, 131, 131, 110, 83], 56) := by decide +kernel
theorem d_Up_attributeFault_84 : decode prog_10_method_9_code 84 = .ok (.aload_n 0, 1) := by decide +kernel
theorem d_Up_attributeFault_85 : decode prog_10_method_9_code 85 = .ok (.getfield 12, 3) := by decide +kernel
theorem d_Up_attributeFault_88 : decode prog_10_method_9_code 88 = .ok (.iload_n 2, 1) := by decide +kernel
theorem d_Up_attributeFault_89 : decode prog_10_method_9_code 89 = .ok (.bipush (8), 2) := by decide +kernel
theorem d_Up_attributeFault_91 : decode prog_10_method_9_code 91 = .ok (.invokestatic 81, 3) := by decide +kernel
theorem d_Up_attributeFault_94 : decode prog_10_method_9_code 94 = .ok (.putfield 86, 3) := by decide +kernel
theorem d_Up_attributeFault_97 : decode prog_10_method_9_code 97 = .ok (.aload_n 0, 1) := by decide +kernel
theorem d_Up_attributeFault_98 : decode prog_10_method_9_code 98 = .ok (.iload_n 2, 1) := by decide +kernel
theorem d_Up_attributeFault_99 : decode prog_10_method_9_code 99 = .ok (.iload_n 3, 1) := by decide +kernel
theorem d_Up_attributeFault_100 : decode prog_10_method_9_code 100 = .ok (.aload_n 0, 1) := by decide +kernel
theorem d_Up_attributeFault_101 : decode prog_10_method_9_code 101 = .ok (.getfield 12, 3) := by decide +kernel
theorem d_Up_attributeFault_104 : decode prog_10_method_9_code 104 = .ok (.getfield 89, 3) := by decide +kernel
theorem d_Up_attributeFault_107 : decode prog_10_method_9_code 107 = .ok (.invokevirtual 92, 3) := by decide +kernel
theorem d_Up_attributeFault_110 : decode prog_10_method_9_code 110 = .ok (.ireturn, 1) := by decide +kernel
theorem d_Up_attributeFault_111 : decode prog_10_method_9_code 111 = .ok (.aload_n 0, 1) := by decide +kernel
theorem d_Up_attributeFault_112 : decode prog_10_method_9_code 112 = .ok (.getfield 12, 3) := by decide +kernel
theorem d_Up_attributeFault_115 : decode prog_10_method_9_code 115 = .ok (.iload_n 2, 1) := by decide +kernel
theorem d_Up_attributeFault_116 : decode prog_10_method_9_code 116 = .ok (.bipush (6), 2) := by decide +kernel
theorem d_Up_attributeFault_118 : decode prog_10_method_9_code 118 = .ok (.invokestatic 81, 3) := by decide +kernel
theorem d_Up_attributeFault_121 : decode prog_10_method_9_code 121 = .ok (.putfield 96, 3) := by decide +kernel
theorem d_Up_attributeFault_124 : decode prog_10_method_9_code 124 = .ok (.aload_n 0, 1) := by decide +kernel
theorem d_Up_attributeFault_125 : decode prog_10_method_9_code 125 = .ok (.iload_n 2, 1) := by decide +kernel
theorem d_Up_attributeFault_126 : decode prog_10_method_9_code 126 = .ok (.iload_n 3, 1) := by decide +kernel
theorem d_Up_attributeFault_127 : decode prog_10_method_9_code 127 = .ok (.aload_n 0, 1) := by decide +kernel
theorem d_Up_attributeFault_128 : decode prog_10_method_9_code 128 = .ok (.getfield 12, 3) := by decide +kernel
theorem d_Up_attributeFault_131 : decode prog_10_method_9_code 131 = .ok (.getfield 99, 3) := by decide +kernel
theorem d_Up_attributeFault_134 : decode prog_10_method_9_code 134 = .ok (.invokevirtual 92, 3) := by decide +kernel
theorem d_Up_attributeFault_137 : decode prog_10_method_9_code 137 = .ok (.ireturn, 1) := by decide +kernel
theorem d_Up_attributeFault_138 : decode prog_10_method_9_code 138 = .ok (.iload_n 2, 1) := by decide +kernel
theorem d_Up_attributeFault_139 : decode prog_10_method_9_code 139 = .ok (.iconst 1, 1) := by decide +kernel
theorem d_Up_attributeFault_140 : decode prog_10_method_9_code 140 = .ok (.if_icmp .eq (7), 3) := by decide +kernel
theorem d_Up_attributeFault_143 : decode prog_10_method_9_code 143 = .ok (.iconst 5, 1) := by decide +kernel
theorem d_Up_attributeFault_144 : decode prog_10_method_9_code 144 = .ok (.goto (14), 3) := by decide +kernel
theorem d_Up_attributeFault_147 : decode prog_10_method_9_code 147 = .ok (.aload_n 0, 1) := by decide +kernel
theorem d_Up_attributeFault_148 : decode prog_10_method_9_code 148 = .ok (.iload_n 1, 1) := by decide +kernel
theorem d_Up_attributeFault_149 : decode prog_10_method_9_code 149 = .ok (.aload_n 0, 1) := by decide +kernel
theorem d_Up_attributeFault_150 : decode prog_10_method_9_code 150 = .ok (.getfield 22, 3) := by decide +kernel
theorem d_Up_attributeFault_153 : decode prog_10_method_9_code 153 = .ok (.iload_n 3, 1) := by decide +kernel
theorem d_Up_attributeFault_154 : decode prog_10_method_9_code 154 = .ok (.iaload, 1) := by decide +kernel
theorem d_Up_attributeFault_155 : decode prog_10_method_9_code 155 = .ok (.invokevirtual 102, 3) := by decide +kernel
theorem d_Up_attributeFault_158 : decode prog_10_method_9_code 158 = .ok (.ireturn, 1) := by decide +kernel
theorem d_Up_attributeFault_159 : decode prog_10_method_9_code 159 = .ok (.iconst 2, 1) := by decide +kernel
theorem d_Up_attributeFault_160 : decode prog_10_method_9_code 160 = .ok (.ireturn, 1) := by decide +kernel
def F_Up_attributeFault (N : Nat → Nat) (v0 : Nat) (x1 : Int32) (x2 : Int32) (x3 : Int32) (σ : rs_Mem) (Q : Int32 → rs_Mem → Prop) : Prop :=
  (vp_in x1 (N (rs_R σ v0 1)) ∧ (((rs_I σ (rs_R σ v0 1) x1.toNatClampNeg) = 0 → (vp_in x1 (N (rs_R σ v0 1)) ∧ ∀ σ55 : rs_Mem, σ55 = rs_sI σ (rs_R σ v0 1) x1.toNatClampNeg (1 : Int32) → ((x1 < (128 : Int32) → (((x1.toInt < 1 ∨ 10 < x1.toInt) → (Q (2 : Int32) σ55)) ∧ (x1 = 1 → ((x2 = (1 : Int32) → (vp_in x3 (N (rs_R σ55 v0 2)) ∧ (F_Up_valueFault N v0 x1 (rs_I σ55 (rs_R σ55 v0 2) x3.toNatClampNeg) σ55 (fun x59 σ58 => (Q x59 σ58))))) ∧ (¬ (x2 = (1 : Int32)) → (Q (5 : Int32) σ55)))) ∧ (x1 = 2 → (∀ σ57 : rs_Mem, σ57 = rs_sI σ55 (rs_R σ55 v0 0) 1 (if (8 : Int32) < x2 then (8 : Int32) else x2) → (F_Up_listFault N v0 x2 x3 (rs_R σ57 (rs_R σ57 v0 0) 2) σ57 (fun x61 σ60 => (Q x61 σ60))))) ∧ (x1 = 3 → ((x2 = (1 : Int32) → (vp_in x3 (N (rs_R σ55 v0 2)) ∧ (F_Up_valueFault N v0 x1 (rs_I σ55 (rs_R σ55 v0 2) x3.toNatClampNeg) σ55 (fun x59 σ58 => (Q x59 σ58))))) ∧ (¬ (x2 = (1 : Int32)) → (Q (5 : Int32) σ55)))) ∧ (x1 = 4 → ((x2 = (1 : Int32) → (vp_in x3 (N (rs_R σ55 v0 2)) ∧ (F_Up_valueFault N v0 x1 (rs_I σ55 (rs_R σ55 v0 2) x3.toNatClampNeg) σ55 (fun x59 σ58 => (Q x59 σ58))))) ∧ (¬ (x2 = (1 : Int32)) → (Q (5 : Int32) σ55)))) ∧ (x1 = 5 → ((x2 = (1 : Int32) → (vp_in x3 (N (rs_R σ55 v0 2)) ∧ (F_Up_valueFault N v0 x1 (rs_I σ55 (rs_R σ55 v0 2) x3.toNatClampNeg) σ55 (fun x59 σ58 => (Q x59 σ58))))) ∧ (¬ (x2 = (1 : Int32)) → (Q (5 : Int32) σ55)))) ∧ (x1 = 6 → (Q (2 : Int32) σ55)) ∧ (x1 = 7 → (Q (2 : Int32) σ55)) ∧ (x1 = 8 → (Q (2 : Int32) σ55)) ∧ (x1 = 9 → ((x2 = (1 : Int32) → (vp_in x3 (N (rs_R σ55 v0 2)) ∧ (F_Up_valueFault N v0 x1 (rs_I σ55 (rs_R σ55 v0 2) x3.toNatClampNeg) σ55 (fun x59 σ58 => (Q x59 σ58))))) ∧ (¬ (x2 = (1 : Int32)) → (Q (5 : Int32) σ55)))) ∧ (x1 = 10 → (∀ σ57 : rs_Mem, σ57 = rs_sI σ55 (rs_R σ55 v0 0) 7 (if (6 : Int32) < x2 then (6 : Int32) else x2) → (F_Up_listFault N v0 x2 x3 (rs_R σ57 (rs_R σ57 v0 0) 8) σ57 (fun x61 σ60 => (Q x61 σ60))))))) ∧ (¬ (x1 < (128 : Int32)) → (Q (0 : Int32) σ55))))) ∧ (¬ ((rs_I σ (rs_R σ v0 1) x1.toNatClampNeg) = 0) → (Q (1 : Int32) σ))))
abbrev y_Up_attributeFault : MethodName := ({ cls := "RouteSpeaker$Update", name := "attributeFault", desc := "(III)I" } : Jvm.MethodName)
theorem rc_Up_attributeFault : rs_Cal y_Up_attributeFault prog_10_method_9_code 4 (some .int) 3 := ⟨tw_749, tw_4, by decide, by decide, by decide +kernel⟩
set_option maxRecDepth 20000 in
theorem J_Up_attributeFault (l : Launch) {G : rs_G} {Bm : Nat} {S : rs_Shp} {v0 : Nat} {x1 : Int32} {x2 : Int32} {x3 : Int32} {σ : rs_Mem} {Q : Int32 → rs_Mem → Prop} (h_v0 : rs_Ok S 10 v0) (hF : F_Up_attributeFault S.2.2 v0 x1 x2 x3 σ Q) :
    Met l y_Up_attributeFault (rs_ws y_Up_attributeFault prog_10_method_9_code 4 (some .int)) { frames := 2, cells := 0, slots := 0, locals := 45 } (rs_P G Bm S σ [.ref (Bm + v0), .int x1, .int x2, .int x3]) (rs_Qi G Bm S Q) 0 0 (rs_A Bm) := by
  refine rs_met (own := "RouteSpeaker$Update") (by decide) rfl (Nat.le_of_ble_eq_true rfl) (fun p e s m below meth c ls C hl hH hT hS => ?_)
  replace hl : lv_has ls 4 [(0, .ref (Bm + v0)), (1, .int x1), (2, .int x2), (3, .int x3)] := hl
  have hx := C.1
  have hb := C.2.1
  unfold F_Up_attributeFault at hF
  refine lv_aload_n hx hb d_Up_attributeFault_0 rfl (lv_at hl 0 rfl) ?_
  refine rs_getR C hH hT h_v0 fk_10_1 tw_122 d_Up_attributeFault_1 (fun h51 => ?_)
  refine lv_iload_n hx hb d_Up_attributeFault_4 rfl (lv_at hl 1 rfl) ?_
  obtain ⟨g52, hF⟩ := hF
  refine rs_zald C hH h51 g52 d_Up_attributeFault_5 ?_
  refine lv_if_eq hx hb d_Up_attributeFault_6 (tgt := 11) rfl (fun hc => ?_) (fun hc => ?_)
  · replace hF := hF.1 hc
    refine lv_aload_n hx hb d_Up_attributeFault_11 rfl (lv_at hl 0 rfl) ?_
    refine rs_getR C hH hT h_v0 fk_10_1 tw_122 d_Up_attributeFault_12 (fun h53 => ?_)
    refine lv_iload_n hx hb d_Up_attributeFault_15 rfl (lv_at hl 1 rfl) ?_
    refine lv_iconst hx hb d_Up_attributeFault_16 ki_1 ?_
    obtain ⟨g54, hF⟩ := hF
    refine rs_zast C hH hT hS (by decide) h53 g54 d_Up_attributeFault_17 (fun σ55 H locs eσ55 hH hT hS => ?_)
    replace hF := hF σ55 eσ55
    refine lv_iload_n hx hb d_Up_attributeFault_18 rfl (lv_at hl 1 rfl) ?_
    refine lv_sipush hx hb d_Up_attributeFault_19 ks_128 ?_
    refine lv_icmp_lt hx hb d_Up_attributeFault_22 (tgt := 27) rfl (fun hc => ?_) (fun hc => ?_)
    · replace hF := hF.1 hc
      refine lv_iload_n hx hb d_Up_attributeFault_27 rfl (lv_at hl 1 rfl) ?_
      rcases rs_sw_1_10 x1 with hc | hc | hc | hc | hc | hc | hc | hc | hc | hc | hc
      · replace hF := hF.1 hc
        refine lv_tableOut hx hb d_Up_attributeFault_28 hc (tgt := 159) rfl ?_
        refine lv_iconst hx hb d_Up_attributeFault_159 ki_2 ?_
        exact rs_iret C hH hT hS hF d_Up_attributeFault_160
      · replace hF := hF.2.1 hc
        refine lv_tableIn hx hb d_Up_attributeFault_28 (by rw [hc]; decide) (by rw [hc]; decide) (off := 110) (by rw [hc]; rfl) (tgt := 138) rfl ?_
        refine lv_iload_n hx hb d_Up_attributeFault_138 rfl (lv_at hl 2 rfl) ?_
        refine lv_iconst hx hb d_Up_attributeFault_139 ki_1 ?_
        refine lv_icmp_eq hx hb d_Up_attributeFault_140 (tgt := 147) rfl (fun hc => ?_) (fun hc => ?_)
        · replace hF := hF.1 hc
          refine lv_aload_n hx hb d_Up_attributeFault_147 rfl (lv_at hl 0 rfl) ?_
          refine lv_iload_n hx hb d_Up_attributeFault_148 rfl (lv_at hl 1 rfl) ?_
          refine lv_aload_n hx hb d_Up_attributeFault_149 rfl (lv_at hl 0 rfl) ?_
          refine rs_getR C hH hT h_v0 fk_10_2 tw_123 d_Up_attributeFault_150 (fun h56 => ?_)
          refine lv_iload_n hx hb d_Up_attributeFault_153 rfl (lv_at hl 3 rfl) ?_
          obtain ⟨g57, hF⟩ := hF
          refine rs_iald C hH h56 g57 d_Up_attributeFault_154 ?_
          refine rs_ci (rs_runV C hH hT hl (J_Up_valueFault l h_v0 hF) rc_Up_valueFault tw_756 tw_758 ts_28 h_v0 ⟨rfl, by decide, by decide⟩ rfl ⟨⟨rfl, rfl⟩, by decide, by decide, by decide⟩ (Nat.le_of_ble_eq_true rfl) rfl d_Up_attributeFault_155) hS (fun x59 σ58 H locs hH hT hS hF => ?_)
          exact rs_iret C hH hT hS hF d_Up_attributeFault_158
        · replace hF := hF.2 hc
          refine lv_iconst hx hb d_Up_attributeFault_143 ki_5 ?_
          refine lv_goto hx hb d_Up_attributeFault_144 (tgt := 158) rfl ?_
          exact rs_iret C hH hT hS hF d_Up_attributeFault_158
      · replace hF := hF.2.2.1 hc
        refine lv_tableIn hx hb d_Up_attributeFault_28 (by rw [hc]; decide) (by rw [hc]; decide) (off := 56) (by rw [hc]; rfl) (tgt := 84) rfl ?_
        refine lv_aload_n hx hb d_Up_attributeFault_84 rfl (lv_at hl 0 rfl) ?_
        refine rs_getR C hH hT h_v0 fk_10_0 tw_120 d_Up_attributeFault_85 (fun h56 => ?_)
        refine lv_iload_n hx hb d_Up_attributeFault_88 rfl (lv_at hl 2 rfl) ?_
        refine lv_bipush hx hb d_Up_attributeFault_89 kb_8 ?_
        refine rs_min C hl tw_750 tw_716 tw_17 mw_min ⟨by decide, Nat.le_of_ble_eq_true rfl, by decide, by decide⟩ d_Up_attributeFault_91 ?_
        refine rs_putI C hH hT hS h56 fk_8_1 rfl tw_69 d_Up_attributeFault_94 (fun σ57 H locs eσ57 hH hT hS => ?_)
        replace hF := hF σ57 eσ57
        refine lv_aload_n hx hb d_Up_attributeFault_97 rfl (lv_at hl 0 rfl) ?_
        refine lv_iload_n hx hb d_Up_attributeFault_98 rfl (lv_at hl 2 rfl) ?_
        refine lv_iload_n hx hb d_Up_attributeFault_99 rfl (lv_at hl 3 rfl) ?_
        refine lv_aload_n hx hb d_Up_attributeFault_100 rfl (lv_at hl 0 rfl) ?_
        refine rs_getR C hH hT h_v0 fk_10_0 tw_120 d_Up_attributeFault_101 (fun h58 => ?_)
        refine rs_getR C hH hT h58 fk_8_2 tw_72 d_Up_attributeFault_104 (fun h59 => ?_)
        refine rs_ci (rs_runV C hH hT hl (J_Up_listFault l h_v0 h59 hF) rc_Up_listFault tw_751 tw_753 ts_27 h_v0 ⟨rfl, by decide, by decide⟩ rfl ⟨⟨rfl, rfl⟩, by decide, by decide, by decide⟩ (Nat.le_of_ble_eq_true rfl) rfl d_Up_attributeFault_107) hS (fun x61 σ60 H locs hH hT hS hF => ?_)
        exact rs_iret C hH hT hS hF d_Up_attributeFault_110
      · replace hF := hF.2.2.2.1 hc
        refine lv_tableIn hx hb d_Up_attributeFault_28 (by rw [hc]; decide) (by rw [hc]; decide) (off := 110) (by rw [hc]; rfl) (tgt := 138) rfl ?_
        refine lv_iload_n hx hb d_Up_attributeFault_138 rfl (lv_at hl 2 rfl) ?_
        refine lv_iconst hx hb d_Up_attributeFault_139 ki_1 ?_
        refine lv_icmp_eq hx hb d_Up_attributeFault_140 (tgt := 147) rfl (fun hc => ?_) (fun hc => ?_)
        · replace hF := hF.1 hc
          refine lv_aload_n hx hb d_Up_attributeFault_147 rfl (lv_at hl 0 rfl) ?_
          refine lv_iload_n hx hb d_Up_attributeFault_148 rfl (lv_at hl 1 rfl) ?_
          refine lv_aload_n hx hb d_Up_attributeFault_149 rfl (lv_at hl 0 rfl) ?_
          refine rs_getR C hH hT h_v0 fk_10_2 tw_123 d_Up_attributeFault_150 (fun h56 => ?_)
          refine lv_iload_n hx hb d_Up_attributeFault_153 rfl (lv_at hl 3 rfl) ?_
          obtain ⟨g57, hF⟩ := hF
          refine rs_iald C hH h56 g57 d_Up_attributeFault_154 ?_
          refine rs_ci (rs_runV C hH hT hl (J_Up_valueFault l h_v0 hF) rc_Up_valueFault tw_756 tw_758 ts_28 h_v0 ⟨rfl, by decide, by decide⟩ rfl ⟨⟨rfl, rfl⟩, by decide, by decide, by decide⟩ (Nat.le_of_ble_eq_true rfl) rfl d_Up_attributeFault_155) hS (fun x59 σ58 H locs hH hT hS hF => ?_)
          exact rs_iret C hH hT hS hF d_Up_attributeFault_158
        · replace hF := hF.2 hc
          refine lv_iconst hx hb d_Up_attributeFault_143 ki_5 ?_
          refine lv_goto hx hb d_Up_attributeFault_144 (tgt := 158) rfl ?_
          exact rs_iret C hH hT hS hF d_Up_attributeFault_158
      · replace hF := hF.2.2.2.2.1 hc
        refine lv_tableIn hx hb d_Up_attributeFault_28 (by rw [hc]; decide) (by rw [hc]; decide) (off := 110) (by rw [hc]; rfl) (tgt := 138) rfl ?_
        refine lv_iload_n hx hb d_Up_attributeFault_138 rfl (lv_at hl 2 rfl) ?_
        refine lv_iconst hx hb d_Up_attributeFault_139 ki_1 ?_
        refine lv_icmp_eq hx hb d_Up_attributeFault_140 (tgt := 147) rfl (fun hc => ?_) (fun hc => ?_)
        · replace hF := hF.1 hc
          refine lv_aload_n hx hb d_Up_attributeFault_147 rfl (lv_at hl 0 rfl) ?_
          refine lv_iload_n hx hb d_Up_attributeFault_148 rfl (lv_at hl 1 rfl) ?_
          refine lv_aload_n hx hb d_Up_attributeFault_149 rfl (lv_at hl 0 rfl) ?_
          refine rs_getR C hH hT h_v0 fk_10_2 tw_123 d_Up_attributeFault_150 (fun h56 => ?_)
          refine lv_iload_n hx hb d_Up_attributeFault_153 rfl (lv_at hl 3 rfl) ?_
          obtain ⟨g57, hF⟩ := hF
          refine rs_iald C hH h56 g57 d_Up_attributeFault_154 ?_
          refine rs_ci (rs_runV C hH hT hl (J_Up_valueFault l h_v0 hF) rc_Up_valueFault tw_756 tw_758 ts_28 h_v0 ⟨rfl, by decide, by decide⟩ rfl ⟨⟨rfl, rfl⟩, by decide, by decide, by decide⟩ (Nat.le_of_ble_eq_true rfl) rfl d_Up_attributeFault_155) hS (fun x59 σ58 H locs hH hT hS hF => ?_)
          exact rs_iret C hH hT hS hF d_Up_attributeFault_158
        · replace hF := hF.2 hc
          refine lv_iconst hx hb d_Up_attributeFault_143 ki_5 ?_
          refine lv_goto hx hb d_Up_attributeFault_144 (tgt := 158) rfl ?_
          exact rs_iret C hH hT hS hF d_Up_attributeFault_158
      · replace hF := hF.2.2.2.2.2.1 hc
        refine lv_tableIn hx hb d_Up_attributeFault_28 (by rw [hc]; decide) (by rw [hc]; decide) (off := 110) (by rw [hc]; rfl) (tgt := 138) rfl ?_
        refine lv_iload_n hx hb d_Up_attributeFault_138 rfl (lv_at hl 2 rfl) ?_
        refine lv_iconst hx hb d_Up_attributeFault_139 ki_1 ?_
        refine lv_icmp_eq hx hb d_Up_attributeFault_140 (tgt := 147) rfl (fun hc => ?_) (fun hc => ?_)
        · replace hF := hF.1 hc
          refine lv_aload_n hx hb d_Up_attributeFault_147 rfl (lv_at hl 0 rfl) ?_
          refine lv_iload_n hx hb d_Up_attributeFault_148 rfl (lv_at hl 1 rfl) ?_
          refine lv_aload_n hx hb d_Up_attributeFault_149 rfl (lv_at hl 0 rfl) ?_
          refine rs_getR C hH hT h_v0 fk_10_2 tw_123 d_Up_attributeFault_150 (fun h56 => ?_)
          refine lv_iload_n hx hb d_Up_attributeFault_153 rfl (lv_at hl 3 rfl) ?_
          obtain ⟨g57, hF⟩ := hF
          refine rs_iald C hH h56 g57 d_Up_attributeFault_154 ?_
          refine rs_ci (rs_runV C hH hT hl (J_Up_valueFault l h_v0 hF) rc_Up_valueFault tw_756 tw_758 ts_28 h_v0 ⟨rfl, by decide, by decide⟩ rfl ⟨⟨rfl, rfl⟩, by decide, by decide, by decide⟩ (Nat.le_of_ble_eq_true rfl) rfl d_Up_attributeFault_155) hS (fun x59 σ58 H locs hH hT hS hF => ?_)
          exact rs_iret C hH hT hS hF d_Up_attributeFault_158
        · replace hF := hF.2 hc
          refine lv_iconst hx hb d_Up_attributeFault_143 ki_5 ?_
          refine lv_goto hx hb d_Up_attributeFault_144 (tgt := 158) rfl ?_
          exact rs_iret C hH hT hS hF d_Up_attributeFault_158
      · replace hF := hF.2.2.2.2.2.2.1 hc
        refine lv_tableIn hx hb d_Up_attributeFault_28 (by rw [hc]; decide) (by rw [hc]; decide) (off := 131) (by rw [hc]; rfl) (tgt := 159) rfl ?_
        refine lv_iconst hx hb d_Up_attributeFault_159 ki_2 ?_
        exact rs_iret C hH hT hS hF d_Up_attributeFault_160
      · replace hF := hF.2.2.2.2.2.2.2.1 hc
        refine lv_tableIn hx hb d_Up_attributeFault_28 (by rw [hc]; decide) (by rw [hc]; decide) (off := 131) (by rw [hc]; rfl) (tgt := 159) rfl ?_
        refine lv_iconst hx hb d_Up_attributeFault_159 ki_2 ?_
        exact rs_iret C hH hT hS hF d_Up_attributeFault_160
      · replace hF := hF.2.2.2.2.2.2.2.2.1 hc
        refine lv_tableIn hx hb d_Up_attributeFault_28 (by rw [hc]; decide) (by rw [hc]; decide) (off := 131) (by rw [hc]; rfl) (tgt := 159) rfl ?_
        refine lv_iconst hx hb d_Up_attributeFault_159 ki_2 ?_
        exact rs_iret C hH hT hS hF d_Up_attributeFault_160
      · replace hF := hF.2.2.2.2.2.2.2.2.2.1 hc
        refine lv_tableIn hx hb d_Up_attributeFault_28 (by rw [hc]; decide) (by rw [hc]; decide) (off := 110) (by rw [hc]; rfl) (tgt := 138) rfl ?_
        refine lv_iload_n hx hb d_Up_attributeFault_138 rfl (lv_at hl 2 rfl) ?_
        refine lv_iconst hx hb d_Up_attributeFault_139 ki_1 ?_
        refine lv_icmp_eq hx hb d_Up_attributeFault_140 (tgt := 147) rfl (fun hc => ?_) (fun hc => ?_)
        · replace hF := hF.1 hc
          refine lv_aload_n hx hb d_Up_attributeFault_147 rfl (lv_at hl 0 rfl) ?_
          refine lv_iload_n hx hb d_Up_attributeFault_148 rfl (lv_at hl 1 rfl) ?_
          refine lv_aload_n hx hb d_Up_attributeFault_149 rfl (lv_at hl 0 rfl) ?_
          refine rs_getR C hH hT h_v0 fk_10_2 tw_123 d_Up_attributeFault_150 (fun h56 => ?_)
          refine lv_iload_n hx hb d_Up_attributeFault_153 rfl (lv_at hl 3 rfl) ?_
          obtain ⟨g57, hF⟩ := hF
          refine rs_iald C hH h56 g57 d_Up_attributeFault_154 ?_
          refine rs_ci (rs_runV C hH hT hl (J_Up_valueFault l h_v0 hF) rc_Up_valueFault tw_756 tw_758 ts_28 h_v0 ⟨rfl, by decide, by decide⟩ rfl ⟨⟨rfl, rfl⟩, by decide, by decide, by decide⟩ (Nat.le_of_ble_eq_true rfl) rfl d_Up_attributeFault_155) hS (fun x59 σ58 H locs hH hT hS hF => ?_)
          exact rs_iret C hH hT hS hF d_Up_attributeFault_158
        · replace hF := hF.2 hc
          refine lv_iconst hx hb d_Up_attributeFault_143 ki_5 ?_
          refine lv_goto hx hb d_Up_attributeFault_144 (tgt := 158) rfl ?_
          exact rs_iret C hH hT hS hF d_Up_attributeFault_158
      · replace hF := hF.2.2.2.2.2.2.2.2.2.2 hc
        refine lv_tableIn hx hb d_Up_attributeFault_28 (by rw [hc]; decide) (by rw [hc]; decide) (off := 83) (by rw [hc]; rfl) (tgt := 111) rfl ?_
        refine lv_aload_n hx hb d_Up_attributeFault_111 rfl (lv_at hl 0 rfl) ?_
        refine rs_getR C hH hT h_v0 fk_10_0 tw_120 d_Up_attributeFault_112 (fun h56 => ?_)
        refine lv_iload_n hx hb d_Up_attributeFault_115 rfl (lv_at hl 2 rfl) ?_
        refine lv_bipush hx hb d_Up_attributeFault_116 kb_6 ?_
        refine rs_min C hl tw_750 tw_716 tw_17 mw_min ⟨by decide, Nat.le_of_ble_eq_true rfl, by decide, by decide⟩ d_Up_attributeFault_118 ?_
        refine rs_putI C hH hT hS h56 fk_8_7 rfl tw_89 d_Up_attributeFault_121 (fun σ57 H locs eσ57 hH hT hS => ?_)
        replace hF := hF σ57 eσ57
        refine lv_aload_n hx hb d_Up_attributeFault_124 rfl (lv_at hl 0 rfl) ?_
        refine lv_iload_n hx hb d_Up_attributeFault_125 rfl (lv_at hl 2 rfl) ?_
        refine lv_iload_n hx hb d_Up_attributeFault_126 rfl (lv_at hl 3 rfl) ?_
        refine lv_aload_n hx hb d_Up_attributeFault_127 rfl (lv_at hl 0 rfl) ?_
        refine rs_getR C hH hT h_v0 fk_10_0 tw_120 d_Up_attributeFault_128 (fun h58 => ?_)
        refine rs_getR C hH hT h58 fk_8_8 tw_92 d_Up_attributeFault_131 (fun h59 => ?_)
        refine rs_ci (rs_runV C hH hT hl (J_Up_listFault l h_v0 h59 hF) rc_Up_listFault tw_751 tw_753 ts_27 h_v0 ⟨rfl, by decide, by decide⟩ rfl ⟨⟨rfl, rfl⟩, by decide, by decide, by decide⟩ (Nat.le_of_ble_eq_true rfl) rfl d_Up_attributeFault_134) hS (fun x61 σ60 H locs hH hT hS hF => ?_)
        exact rs_iret C hH hT hS hF d_Up_attributeFault_137
    · replace hF := hF.2 hc
      refine lv_iconst hx hb d_Up_attributeFault_25 ki_0 ?_
      exact rs_iret C hH hT hS hF d_Up_attributeFault_26
  · replace hF := hF.2 hc
    refine lv_iconst hx hb d_Up_attributeFault_9 ki_1 ?_
    exact rs_iret C hH hT hS hF d_Up_attributeFault_10
/-! RouteSpeaker$Update.announcementFault(ZI)I -/
theorem d_Up_announcementFault_0 : decode prog_10_method_12_code 0 = .ok (.aload_n 0, 1) := by decide +kernel
theorem d_Up_announcementFault_1 : decode prog_10_method_12_code 1 = .ok (.getfield 18, 3) := by decide +kernel
theorem d_Up_announcementFault_4 : decode prog_10_method_12_code 4 = .ok (.iconst 1, 1) := by decide +kernel
theorem d_Up_announcementFault_5 : decode prog_10_method_12_code 5 = .ok (.baload, 1) := by decide +kernel
theorem d_Up_announcementFault_6 : decode prog_10_method_12_code 6 = .ok (.ifCond .eq (34), 3) := by decide +kernel
theorem d_Up_announcementFault_9 : decode prog_10_method_12_code 9 = .ok (.aload_n 0, 1) := by decide +kernel
theorem d_Up_announcementFault_10 : decode prog_10_method_12_code 10 = .ok (.getfield 18, 3) := by decide +kernel
theorem d_Up_announcementFault_13 : decode prog_10_method_12_code 13 = .ok (.iconst 2, 1) := by decide +kernel
theorem d_Up_announcementFault_14 : decode prog_10_method_12_code 14 = .ok (.baload, 1) := by decide +kernel
theorem d_Up_announcementFault_15 : decode prog_10_method_12_code 15 = .ok (.ifCond .eq (25), 3) := by decide +kernel
theorem d_Up_announcementFault_18 : decode prog_10_method_12_code 18 = .ok (.aload_n 0, 1) := by decide +kernel
theorem d_Up_announcementFault_19 : decode prog_10_method_12_code 19 = .ok (.getfield 18, 3) := by decide +kernel
theorem d_Up_announcementFault_22 : decode prog_10_method_12_code 22 = .ok (.iconst 3, 1) := by decide +kernel
theorem d_Up_announcementFault_23 : decode prog_10_method_12_code 23 = .ok (.baload, 1) := by decide +kernel
theorem d_Up_announcementFault_24 : decode prog_10_method_12_code 24 = .ok (.ifCond .eq (16), 3) := by decide +kernel
theorem d_Up_announcementFault_27 : decode prog_10_method_12_code 27 = .ok (.iload_n 1, 1) := by decide +kernel
theorem d_Up_announcementFault_28 : decode prog_10_method_12_code 28 = .ok (.ifCond .ne (14), 3) := by decide +kernel
theorem d_Up_announcementFault_31 : decode prog_10_method_12_code 31 = .ok (.aload_n 0, 1) := by decide +kernel
theorem d_Up_announcementFault_32 : decode prog_10_method_12_code 32 = .ok (.getfield 18, 3) := by decide +kernel
theorem d_Up_announcementFault_35 : decode prog_10_method_12_code 35 = .ok (.iconst 5, 1) := by decide +kernel
theorem d_Up_announcementFault_36 : decode prog_10_method_12_code 36 = .ok (.baload, 1) := by decide +kernel
theorem d_Up_announcementFault_37 : decode prog_10_method_12_code 37 = .ok (.ifCond .ne (5), 3) := by decide +kernel
theorem d_Up_announcementFault_40 : decode prog_10_method_12_code 40 = .ok (.iconst 3, 1) := by decide +kernel
theorem d_Up_announcementFault_41 : decode prog_10_method_12_code 41 = .ok (.ireturn, 1) := by decide +kernel
theorem d_Up_announcementFault_42 : decode prog_10_method_12_code 42 = .ok (.iload_n 1, 1) := by decide +kernel
theorem d_Up_announcementFault_43 : decode prog_10_method_12_code 43 = .ok (.ifCond .eq (19), 3) := by decide +kernel
theorem d_Up_announcementFault_46 : decode prog_10_method_12_code 46 = .ok (.aload_n 0, 1) := by decide +kernel
theorem d_Up_announcementFault_47 : decode prog_10_method_12_code 47 = .ok (.getfield 12, 3) := by decide +kernel
theorem d_Up_announcementFault_50 : decode prog_10_method_12_code 50 = .ok (.invokevirtual 123, 3) := by decide +kernel
theorem d_Up_announcementFault_53 : decode prog_10_method_12_code 53 = .ok (.iload_n 2, 1) := by decide +kernel
theorem d_Up_announcementFault_54 : decode prog_10_method_12_code 54 = .ok (.if_icmp .eq (8), 3) := by decide +kernel
theorem d_Up_announcementFault_57 : decode prog_10_method_12_code 57 = .ok (.bipush (11), 2) := by decide +kernel
theorem d_Up_announcementFault_59 : decode prog_10_method_12_code 59 = .ok (.goto (4), 3) := by decide +kernel
theorem d_Up_announcementFault_62 : decode prog_10_method_12_code 62 = .ok (.iconst 0, 1) := by decide +kernel
theorem d_Up_announcementFault_63 : decode prog_10_method_12_code 63 = .ok (.ireturn, 1) := by decide +kernel
def B_Up_announcementFault_42 (N : Nat → Nat) (Q : Int32 → rs_Mem → Prop) (v0 : Nat) (x1 : Int32) (x2 : Int32) (σ : rs_Mem) : Prop :=
  ((x1 = 0 → (Q (0 : Int32) σ)) ∧ (¬ (x1 = 0) → (F_Ro_firstNetwork N (rs_R σ v0 0) σ (fun x53 σ52 => ((x53 = x2 → (Q (0 : Int32) σ52)) ∧ (¬ (x53 = x2) → (Q (11 : Int32) σ52)))))))
def F_Up_announcementFault (N : Nat → Nat) (v0 : Nat) (x1 : Int32) (x2 : Int32) (σ : rs_Mem) (Q : Int32 → rs_Mem → Prop) : Prop :=
  (vp_in (1 : Int32) (N (rs_R σ v0 1)) ∧ (((rs_I σ (rs_R σ v0 1) (1 : Int32).toNatClampNeg) = 0 → (Q (3 : Int32) σ)) ∧ (¬ ((rs_I σ (rs_R σ v0 1) (1 : Int32).toNatClampNeg) = 0) → (vp_in (2 : Int32) (N (rs_R σ v0 1)) ∧ (((rs_I σ (rs_R σ v0 1) (2 : Int32).toNatClampNeg) = 0 → (Q (3 : Int32) σ)) ∧ (¬ ((rs_I σ (rs_R σ v0 1) (2 : Int32).toNatClampNeg) = 0) → (vp_in (3 : Int32) (N (rs_R σ v0 1)) ∧ (((rs_I σ (rs_R σ v0 1) (3 : Int32).toNatClampNeg) = 0 → (Q (3 : Int32) σ)) ∧ (¬ ((rs_I σ (rs_R σ v0 1) (3 : Int32).toNatClampNeg) = 0) → ((¬ (x1 = 0) → (B_Up_announcementFault_42 N Q v0 x1 x2 σ)) ∧ (x1 = 0 → (vp_in (5 : Int32) (N (rs_R σ v0 1)) ∧ ((¬ ((rs_I σ (rs_R σ v0 1) (5 : Int32).toNatClampNeg) = 0) → (B_Up_announcementFault_42 N Q v0 x1 x2 σ)) ∧ ((rs_I σ (rs_R σ v0 1) (5 : Int32).toNatClampNeg) = 0 → (Q (3 : Int32) σ)))))))))))))))
set_option maxRecDepth 20000 in
theorem JB_Up_announcementFault_42 {p : Program} {l : Launch} {e : Env} {s : State} {m : MethodId} {args : Array Value} {below : List Frame} {meth : Method} {c : Code} {G : rs_G} {Bm : Nat} {S : rs_Shp} {Q : Int32 → rs_Mem → Prop} (C : rs_C "RouteSpeaker$Update" prog_10_method_12_code 3 (some .int) G p s m meth c args) (v0 : Nat) (x1 : Int32) (x2 : Int32) (σ : rs_Mem) (H : Heap) (locs : List Loc) (ls : Array Slot) (h_v0 : rs_Ok S 10 v0) (hH : rs_H G Bm S σ H) (hT : rs_T S σ) (hS : va_S (rs_A Bm) s.heap H locs) (hl : lv_has ls 3 [(0, .ref (Bm + v0)), (1, .int x1), (2, .int x2)]) (hF : B_Up_announcementFault_42 S.2.2 Q v0 x1 x2 σ) :
    W p l e { frames := 1, cells := 0, slots := 0, locals := 20 } s m args below meth c H locs 0 0 (MQ below (rs_Qi G Bm S Q) args s 0 0 (rs_A Bm)) (F0 m 42 ls []) := by
  have hx := C.1
  have hb := C.2.1
  unfold B_Up_announcementFault_42 at hF
  refine lv_iload_n hx hb d_Up_announcementFault_42 rfl (lv_at hl 1 rfl) ?_
  refine lv_if_eq hx hb d_Up_announcementFault_43 (tgt := 62) rfl (fun hc => ?_) (fun hc => ?_)
  · replace hF := hF.1 hc
    refine lv_iconst hx hb d_Up_announcementFault_62 ki_0 ?_
    exact rs_iret C hH hT hS hF d_Up_announcementFault_63
  · replace hF := hF.2 hc
    refine lv_aload_n hx hb d_Up_announcementFault_46 rfl (lv_at hl 0 rfl) ?_
    refine rs_getR C hH hT h_v0 fk_10_0 tw_120 d_Up_announcementFault_47 (fun h51 => ?_)
    refine rs_ci (rs_runV C hH hT hl (J_Ro_firstNetwork l h51 hF) rc_Ro_firstNetwork tw_764 tw_428 tw_429 h51 ⟨rfl, by decide, by decide⟩ rfl ⟨⟨rfl, rfl⟩, by decide, by decide, by decide⟩ (Nat.le_of_ble_eq_true rfl) rfl d_Up_announcementFault_50) hS (fun x53 σ52 H locs hH hT hS hF => ?_)
    refine lv_iload_n hx hb d_Up_announcementFault_53 rfl (lv_at hl 2 rfl) ?_
    refine lv_icmp_eq hx hb d_Up_announcementFault_54 (tgt := 62) rfl (fun hc => ?_) (fun hc => ?_)
    · replace hF := hF.1 hc
      refine lv_iconst hx hb d_Up_announcementFault_62 ki_0 ?_
      exact rs_iret C hH hT hS hF d_Up_announcementFault_63
    · replace hF := hF.2 hc
      refine lv_bipush hx hb d_Up_announcementFault_57 kb_11 ?_
      refine lv_goto hx hb d_Up_announcementFault_59 (tgt := 63) rfl ?_
      exact rs_iret C hH hT hS hF d_Up_announcementFault_63
abbrev y_Up_announcementFault : MethodName := ({ cls := "RouteSpeaker$Update", name := "announcementFault", desc := "(ZI)I" } : Jvm.MethodName)
theorem rc_Up_announcementFault : rs_Cal y_Up_announcementFault prog_10_method_12_code 3 (some .int) 2 := ⟨tw_763, tw_4, by decide, by decide, by decide +kernel⟩
set_option maxRecDepth 20000 in
theorem J_Up_announcementFault (l : Launch) {G : rs_G} {Bm : Nat} {S : rs_Shp} {v0 : Nat} {x1 : Int32} {x2 : Int32} {σ : rs_Mem} {Q : Int32 → rs_Mem → Prop} (h_v0 : rs_Ok S 10 v0) (hF : F_Up_announcementFault S.2.2 v0 x1 x2 σ Q) :
    Met l y_Up_announcementFault (rs_ws y_Up_announcementFault prog_10_method_12_code 3 (some .int)) { frames := 1, cells := 0, slots := 0, locals := 20 } (rs_P G Bm S σ [.ref (Bm + v0), .int x1, .int x2]) (rs_Qi G Bm S Q) 0 0 (rs_A Bm) := by
  refine rs_met (own := "RouteSpeaker$Update") (by decide) rfl (Nat.le_of_ble_eq_true rfl) (fun p e s m below meth c ls C hl hH hT hS => ?_)
  replace hl : lv_has ls 3 [(0, .ref (Bm + v0)), (1, .int x1), (2, .int x2)] := hl
  have hx := C.1
  have hb := C.2.1
  unfold F_Up_announcementFault at hF
  refine lv_aload_n hx hb d_Up_announcementFault_0 rfl (lv_at hl 0 rfl) ?_
  refine rs_getR C hH hT h_v0 fk_10_1 tw_122 d_Up_announcementFault_1 (fun h51 => ?_)
  refine lv_iconst hx hb d_Up_announcementFault_4 ki_1 ?_
  obtain ⟨g52, hF⟩ := hF
  refine rs_zald C hH h51 g52 d_Up_announcementFault_5 ?_
  refine lv_if_eq hx hb d_Up_announcementFault_6 (tgt := 40) rfl (fun hc => ?_) (fun hc => ?_)
  · replace hF := hF.1 hc
    refine lv_iconst hx hb d_Up_announcementFault_40 ki_3 ?_
    exact rs_iret C hH hT hS hF d_Up_announcementFault_41
  · replace hF := hF.2 hc
    refine lv_aload_n hx hb d_Up_announcementFault_9 rfl (lv_at hl 0 rfl) ?_
    refine rs_getR C hH hT h_v0 fk_10_1 tw_122 d_Up_announcementFault_10 (fun h53 => ?_)
    refine lv_iconst hx hb d_Up_announcementFault_13 ki_2 ?_
    obtain ⟨g54, hF⟩ := hF
    refine rs_zald C hH h53 g54 d_Up_announcementFault_14 ?_
    refine lv_if_eq hx hb d_Up_announcementFault_15 (tgt := 40) rfl (fun hc => ?_) (fun hc => ?_)
    · replace hF := hF.1 hc
      refine lv_iconst hx hb d_Up_announcementFault_40 ki_3 ?_
      exact rs_iret C hH hT hS hF d_Up_announcementFault_41
    · replace hF := hF.2 hc
      refine lv_aload_n hx hb d_Up_announcementFault_18 rfl (lv_at hl 0 rfl) ?_
      refine rs_getR C hH hT h_v0 fk_10_1 tw_122 d_Up_announcementFault_19 (fun h55 => ?_)
      refine lv_iconst hx hb d_Up_announcementFault_22 ki_3 ?_
      obtain ⟨g56, hF⟩ := hF
      refine rs_zald C hH h55 g56 d_Up_announcementFault_23 ?_
      refine lv_if_eq hx hb d_Up_announcementFault_24 (tgt := 40) rfl (fun hc => ?_) (fun hc => ?_)
      · replace hF := hF.1 hc
        refine lv_iconst hx hb d_Up_announcementFault_40 ki_3 ?_
        exact rs_iret C hH hT hS hF d_Up_announcementFault_41
      · replace hF := hF.2 hc
        refine lv_iload_n hx hb d_Up_announcementFault_27 rfl (lv_at hl 1 rfl) ?_
        refine lv_if_ne hx hb d_Up_announcementFault_28 (tgt := 42) rfl (fun hc => ?_) (fun hc => ?_)
        · replace hF := hF.1 hc
          exact JB_Up_announcementFault_42 C v0 x1 x2 σ _ _ _ h_v0 hH hT hS (lv_sub hl [0, 1, 2] rfl) hF
        · replace hF := hF.2 hc
          refine lv_aload_n hx hb d_Up_announcementFault_31 rfl (lv_at hl 0 rfl) ?_
          refine rs_getR C hH hT h_v0 fk_10_1 tw_122 d_Up_announcementFault_32 (fun h57 => ?_)
          refine lv_iconst hx hb d_Up_announcementFault_35 ki_5 ?_
          obtain ⟨g58, hF⟩ := hF
          refine rs_zald C hH h57 g58 d_Up_announcementFault_36 ?_
          refine lv_if_ne hx hb d_Up_announcementFault_37 (tgt := 42) rfl (fun hc => ?_) (fun hc => ?_)
          · replace hF := hF.1 hc
            exact JB_Up_announcementFault_42 C v0 x1 x2 σ _ _ _ h_v0 hH hT hS (lv_sub hl [0, 1, 2] rfl) hF
          · replace hF := hF.2 hc
            refine lv_iconst hx hb d_Up_announcementFault_40 ki_3 ?_
            exact rs_iret C hH hT hS hF d_Up_announcementFault_41
/-! RouteSpeaker$Update.withdrawnAt(I)I -/
theorem d_Up_withdrawnAt_0 : decode prog_10_method_3_code 0 = .ok (.iconst 3, 1) := by decide +kernel
theorem d_Up_withdrawnAt_1 : decode prog_10_method_3_code 1 = .ok (.iconst 2, 1) := by decide +kernel
theorem d_Up_withdrawnAt_2 : decode prog_10_method_3_code 2 = .ok (.iload_n 1, 1) := by decide +kernel
theorem d_Up_withdrawnAt_3 : decode prog_10_method_3_code 3 = .ok (.imul, 1) := by decide +kernel
theorem d_Up_withdrawnAt_4 : decode prog_10_method_3_code 4 = .ok (.iadd, 1) := by decide +kernel
theorem d_Up_withdrawnAt_5 : decode prog_10_method_3_code 5 = .ok (.ireturn, 1) := by decide +kernel
def F_Up_withdrawnAt (N : Nat → Nat) (v0 : Nat) (x1 : Int32) (σ : rs_Mem) (Q : Int32 → rs_Mem → Prop) : Prop :=
  (Q ((3 : Int32) + ((2 : Int32) * x1)) σ)
abbrev y_Up_withdrawnAt : MethodName := ({ cls := "RouteSpeaker$Update", name := "withdrawnAt", desc := "(I)I" } : Jvm.MethodName)
theorem rc_Up_withdrawnAt : rs_Cal y_Up_withdrawnAt prog_10_method_3_code 2 (some .int) 1 := ⟨tw_772, tw_4, by decide, by decide, by decide +kernel⟩
set_option maxRecDepth 20000 in
theorem J_Up_withdrawnAt (l : Launch) {G : rs_G} {Bm : Nat} {S : rs_Shp} {v0 : Nat} {x1 : Int32} {σ : rs_Mem} {Q : Int32 → rs_Mem → Prop} (h_v0 : rs_Ok S 10 v0) (hF : F_Up_withdrawnAt S.2.2 v0 x1 σ Q) :
    Met l y_Up_withdrawnAt (rs_ws y_Up_withdrawnAt prog_10_method_3_code 2 (some .int)) { frames := 0, cells := 0, slots := 0, locals := 0 } (rs_P G Bm S σ [.ref (Bm + v0), .int x1]) (rs_Qi G Bm S Q) 0 0 (rs_A Bm) := by
  refine rs_met (own := "RouteSpeaker$Update") (by decide) rfl (Nat.le_of_ble_eq_true rfl) (fun p e s m below meth c ls C hl hH hT hS => ?_)
  replace hl : lv_has ls 2 [(0, .ref (Bm + v0)), (1, .int x1)] := hl
  have hx := C.1
  have hb := C.2.1
  unfold F_Up_withdrawnAt at hF
  refine lv_iconst hx hb d_Up_withdrawnAt_0 ki_3 ?_
  refine lv_iconst hx hb d_Up_withdrawnAt_1 ki_2 ?_
  refine lv_iload_n hx hb d_Up_withdrawnAt_2 rfl (lv_at hl 1 rfl) ?_
  refine lv_imul hx hb d_Up_withdrawnAt_3 ?_
  refine lv_iadd hx hb d_Up_withdrawnAt_4 ?_
  exact rs_iret C hH hT hS hF d_Up_withdrawnAt_5
/-! RouteSpeaker$Update.announcedAt(I)I -/
theorem d_Up_announcedAt_0 : decode prog_10_method_4_code 0 = .ok (.aload_n 0, 1) := by decide +kernel
theorem d_Up_announcedAt_1 : decode prog_10_method_4_code 1 = .ok (.getfield 40, 3) := by decide +kernel
theorem d_Up_announcedAt_4 : decode prog_10_method_4_code 4 = .ok (.iconst 2, 1) := by decide +kernel
theorem d_Up_announcedAt_5 : decode prog_10_method_4_code 5 = .ok (.iload_n 1, 1) := by decide +kernel
theorem d_Up_announcedAt_6 : decode prog_10_method_4_code 6 = .ok (.imul, 1) := by decide +kernel
theorem d_Up_announcedAt_7 : decode prog_10_method_4_code 7 = .ok (.iadd, 1) := by decide +kernel
theorem d_Up_announcedAt_8 : decode prog_10_method_4_code 8 = .ok (.ireturn, 1) := by decide +kernel
def F_Up_announcedAt (N : Nat → Nat) (v0 : Nat) (x1 : Int32) (σ : rs_Mem) (Q : Int32 → rs_Mem → Prop) : Prop :=
  (Q ((rs_I σ v0 7) + ((2 : Int32) * x1)) σ)
abbrev y_Up_announcedAt : MethodName := ({ cls := "RouteSpeaker$Update", name := "announcedAt", desc := "(I)I" } : Jvm.MethodName)
theorem rc_Up_announcedAt : rs_Cal y_Up_announcedAt prog_10_method_4_code 2 (some .int) 1 := ⟨tw_777, tw_4, by decide, by decide, by decide +kernel⟩
set_option maxRecDepth 20000 in
theorem J_Up_announcedAt (l : Launch) {G : rs_G} {Bm : Nat} {S : rs_Shp} {v0 : Nat} {x1 : Int32} {σ : rs_Mem} {Q : Int32 → rs_Mem → Prop} (h_v0 : rs_Ok S 10 v0) (hF : F_Up_announcedAt S.2.2 v0 x1 σ Q) :
    Met l y_Up_announcedAt (rs_ws y_Up_announcedAt prog_10_method_4_code 2 (some .int)) { frames := 0, cells := 0, slots := 0, locals := 0 } (rs_P G Bm S σ [.ref (Bm + v0), .int x1]) (rs_Qi G Bm S Q) 0 0 (rs_A Bm) := by
  refine rs_met (own := "RouteSpeaker$Update") (by decide) rfl (Nat.le_of_ble_eq_true rfl) (fun p e s m below meth c ls C hl hH hT hS => ?_)
  replace hl : lv_has ls 2 [(0, .ref (Bm + v0)), (1, .int x1)] := hl
  have hx := C.1
  have hb := C.2.1
  unfold F_Up_announcedAt at hF
  refine lv_aload_n hx hb d_Up_announcedAt_0 rfl (lv_at hl 0 rfl) ?_
  refine rs_getI C hH h_v0 fk_10_7 tw_130 d_Up_announcedAt_1 ?_
  refine lv_iconst hx hb d_Up_announcedAt_4 ki_2 ?_
  refine lv_iload_n hx hb d_Up_announcedAt_5 rfl (lv_at hl 1 rfl) ?_
  refine lv_imul hx hb d_Up_announcedAt_6 ?_
  refine lv_iadd hx hb d_Up_announcedAt_7 ?_
  exact rs_iret C hH hT hS hF d_Up_announcedAt_8
