theorem cw_1 : Cond.castable (rs_xn 1) (rs_xn 1) ∈ rs_FW := by decide +kernel
theorem cw_2 : Cond.castable (rs_xn 2) (rs_xn 2) ∈ rs_FW := by decide +kernel
theorem cw_3 : Cond.castable (rs_xn 3) (rs_xn 3) ∈ rs_FW := by decide +kernel
theorem nc_2_1 : (rs_xn 2, rs_xn 1) ∈ rs_NC := by decide +kernel
theorem nc_3_1 : (rs_xn 3, rs_xn 1) ∈ rs_NC := by decide +kernel
/-! RouteSpeakerLaw.peer(LRouteSpeaker;III)I -/
theorem d_La_peer_0 : decode method_3_code 0 = .ok (.aload_n 0, 1) := by decide +kernel
theorem d_La_peer_1 : decode method_3_code 1 = .ok (.iload_n 1, 1) := by decide +kernel
theorem d_La_peer_2 : decode method_3_code 2 = .ok (.iload_n 2, 1) := by decide +kernel
theorem d_La_peer_3 : decode method_3_code 3 = .ok (.iload_n 3, 1) := by decide +kernel
theorem d_La_peer_4 : decode method_3_code 4 = .ok (.invokevirtual 7, 3) := by decide +kernel
theorem d_La_peer_7 : decode method_3_code 7 = .ok (.goto (11), 3) := by decide +kernel
theorem d_La_peer_10 : decode method_3_code 10 = .ok (.astore 4, 2) := by decide +kernel
theorem d_La_peer_12 : decode method_3_code 12 = .ok (.iconst 1, 1) := by decide +kernel
theorem d_La_peer_13 : decode method_3_code 13 = .ok (.ireturn, 1) := by decide +kernel
theorem d_La_peer_14 : decode method_3_code 14 = .ok (.astore 4, 2) := by decide +kernel
theorem d_La_peer_16 : decode method_3_code 16 = .ok (.iconst 2, 1) := by decide +kernel
theorem d_La_peer_17 : decode method_3_code 17 = .ok (.ireturn, 1) := by decide +kernel
theorem d_La_peer_18 : decode method_3_code 18 = .ok (.iconst 0, 1) := by decide +kernel
theorem d_La_peer_19 : decode method_3_code 19 = .ok (.ireturn, 1) := by decide +kernel
def F_La_peer (N : Nat → Nat) (v0 : Nat) (x1 : Int32) (x2 : Int32) (x3 : Int32) (σ : rs_Mem) (Q : Int32 → rs_Mem → Prop) : Prop :=
  (F_Sp_peer N v0 x1 x2 x3 σ (fun σ51 => (Q (0 : Int32) σ51)) (fun k53 σ51 => ((k53 = 1 ∧ (Q (1 : Int32) σ51)) ∨ (k53 = 2 ∧ (Q (2 : Int32) σ51)))))
abbrev y_La_peer : MethodName := ({ cls := "RouteSpeakerLaw", name := "peer", desc := "(LRouteSpeaker;III)I" } : Jvm.MethodName)
abbrev hs_La_peer : List (Nat × Nat × Nat × Nat) := [(0, 7, 10, 13), (0, 7, 14, 15)]
set_option maxRecDepth 20000 in
theorem J_La_peer (l : Launch) (hfl : l.flags = flags0) {G : rs_G} {Bm : Nat} {S : rs_Shp} {v0 : Nat} {x1 : Int32} {x2 : Int32} {x3 : Int32} {σ : rs_Mem} {Q : Int32 → rs_Mem → Prop} (h_v0 : rs_Ok S 1 v0) (hF : F_La_peer S.2.2 v0 x1 x2 x3 σ Q) :
    Met l y_La_peer (rs_wsW y_La_peer method_3_code 5 (some .int) hs_La_peer) { frames := 7, cells := 1, slots := 6, locals := 134 } (rs_PT G Bm S σ [.ref (Bm + v0), .int x1, .int x2, .int x3]) (rs_Qi G Bm S Q) 1 6 (rs_A Bm) := by
  refine rs_metW (own := "RouteSpeakerLaw") (by decide) rfl (Nat.le_of_ble_eq_true rfl) (fun p e s m below meth c ls C hX hh hl hH hT hS => ?_)
  replace hl : lv_has ls 5 [(0, .ref (Bm + v0)), (1, .int x1), (2, .int x2), (3, .int x3)] := hl
  have hx := C.1
  have hb := C.2.1
  unfold F_La_peer at hF
  refine lv_aload_n hx hb d_La_peer_0 rfl (lv_at hl 0 rfl) ?_
  refine lv_iload_n hx hb d_La_peer_1 rfl (lv_at hl 1 rfl) ?_
  refine lv_iload_n hx hb d_La_peer_2 rfl (lv_at hl 2 rfl) ?_
  refine lv_iload_n hx hb d_La_peer_3 rfl (lv_at hl 3 rfl) ?_
  refine rs_cTv (rs_runVT C hX hH hT hS hl (J_Sp_peer l hfl h_v0 hF) rc_Sp_peer tw_529 tw_530 tw_531 h_v0 ⟨rfl, by decide, by decide⟩ rfl ⟨⟨rfl, rfl⟩, ⟨by decide, by decide⟩, by decide, by decide⟩ (Nat.le_of_ble_eq_true rfl) rfl d_La_peer_4) hS (fun σ51 H locs hH hT hS hF => ?_) (fun x52 k53 σ51 ce H locs hH hT hS hF hce => ?_)
  · refine lv_goto hx hb d_La_peer_7 (tgt := 18) rfl ?_
    refine lv_iconst hx hb d_La_peer_18 ki_0 ?_
    exact rs_iret C hH hT hS hF d_La_peer_19
  · rcases hF with hF | hF
    · obtain ⟨hk, hF⟩ := hF
      subst hk
      refine rs_k1 (k := 1) C hX hh (by decide) (by decide) tw_527 cw_1 hce ?_
      refine lv_astore hx hb d_La_peer_10 hl (by decide) (lv' := [(4, .ref x52), (0, .ref (Bm + v0)), (1, .int x1), (2, .int x2), (3, .int x3)]) rfl (fun ls hl => ?_)
      refine lv_iconst hx hb d_La_peer_12 ki_1 ?_
      exact rs_iret C hH hT hS hF d_La_peer_13
    · obtain ⟨hk, hF⟩ := hF
      subst hk
      refine rs_k2 (k := 2) (k0 := 1) C hX hh (by decide) (by decide) tw_527 tw_528 cw_2 nc_2_1 hce ?_
      refine lv_astore hx hb d_La_peer_14 hl (by decide) (lv' := [(4, .ref x52), (0, .ref (Bm + v0)), (1, .int x1), (2, .int x2), (3, .int x3)]) rfl (fun ls hl => ?_)
      refine lv_iconst hx hb d_La_peer_16 ki_2 ?_
      exact rs_iret C hH hT hS hF d_La_peer_17
/-! RouteSpeakerLaw.rule(LRouteSpeaker;IIII)I -/
theorem d_La_rule_0 : decode method_4_code 0 = .ok (.aload_n 0, 1) := by decide +kernel
theorem d_La_rule_1 : decode method_4_code 1 = .ok (.iload_n 1, 1) := by decide +kernel
theorem d_La_rule_2 : decode method_4_code 2 = .ok (.iload_n 2, 1) := by decide +kernel
theorem d_La_rule_3 : decode method_4_code 3 = .ok (.iload_n 3, 1) := by decide +kernel
theorem d_La_rule_4 : decode method_4_code 4 = .ok (.iload 4, 2) := by decide +kernel
theorem d_La_rule_6 : decode method_4_code 6 = .ok (.invokevirtual 17, 3) := by decide +kernel
theorem d_La_rule_9 : decode method_4_code 9 = .ok (.goto (11), 3) := by decide +kernel
theorem d_La_rule_12 : decode method_4_code 12 = .ok (.astore 5, 2) := by decide +kernel
theorem d_La_rule_14 : decode method_4_code 14 = .ok (.iconst 1, 1) := by decide +kernel
theorem d_La_rule_15 : decode method_4_code 15 = .ok (.ireturn, 1) := by decide +kernel
theorem d_La_rule_16 : decode method_4_code 16 = .ok (.astore 5, 2) := by decide +kernel
theorem d_La_rule_18 : decode method_4_code 18 = .ok (.iconst 2, 1) := by decide +kernel
theorem d_La_rule_19 : decode method_4_code 19 = .ok (.ireturn, 1) := by decide +kernel
theorem d_La_rule_20 : decode method_4_code 20 = .ok (.iconst 0, 1) := by decide +kernel
theorem d_La_rule_21 : decode method_4_code 21 = .ok (.ireturn, 1) := by decide +kernel
def F_La_rule (N : Nat → Nat) (v0 : Nat) (x1 : Int32) (x2 : Int32) (x3 : Int32) (x4 : Int32) (σ : rs_Mem) (Q : Int32 → rs_Mem → Prop) : Prop :=
  (F_Sp_rule N v0 x1 x2 x3 x4 σ (fun σ51 => (Q (0 : Int32) σ51)) (fun k53 σ51 => ((k53 = 1 ∧ (Q (1 : Int32) σ51)) ∨ (k53 = 2 ∧ (Q (2 : Int32) σ51)))))
abbrev y_La_rule : MethodName := ({ cls := "RouteSpeakerLaw", name := "rule", desc := "(LRouteSpeaker;IIII)I" } : Jvm.MethodName)
abbrev hs_La_rule : List (Nat × Nat × Nat × Nat) := [(0, 9, 12, 13), (0, 9, 16, 15)]
set_option maxRecDepth 20000 in
theorem J_La_rule (l : Launch) (hfl : l.flags = flags0) {G : rs_G} {Bm : Nat} {S : rs_Shp} {v0 : Nat} {x1 : Int32} {x2 : Int32} {x3 : Int32} {x4 : Int32} {σ : rs_Mem} {Q : Int32 → rs_Mem → Prop} (h_v0 : rs_Ok S 1 v0) (hF : F_La_rule S.2.2 v0 x1 x2 x3 x4 σ Q) :
    Met l y_La_rule (rs_wsW y_La_rule method_4_code 6 (some .int) hs_La_rule) { frames := 7, cells := 1, slots := 6, locals := 164 } (rs_PT G Bm S σ [.ref (Bm + v0), .int x1, .int x2, .int x3, .int x4]) (rs_Qi G Bm S Q) 1 6 (rs_A Bm) := by
  refine rs_metW (own := "RouteSpeakerLaw") (by decide) rfl (Nat.le_of_ble_eq_true rfl) (fun p e s m below meth c ls C hX hh hl hH hT hS => ?_)
  replace hl : lv_has ls 6 [(0, .ref (Bm + v0)), (1, .int x1), (2, .int x2), (3, .int x3), (4, .int x4)] := hl
  have hx := C.1
  have hb := C.2.1
  unfold F_La_rule at hF
  refine lv_aload_n hx hb d_La_rule_0 rfl (lv_at hl 0 rfl) ?_
  refine lv_iload_n hx hb d_La_rule_1 rfl (lv_at hl 1 rfl) ?_
  refine lv_iload_n hx hb d_La_rule_2 rfl (lv_at hl 2 rfl) ?_
  refine lv_iload_n hx hb d_La_rule_3 rfl (lv_at hl 3 rfl) ?_
  refine lv_iload hx hb d_La_rule_4 (lv_at hl 4 rfl) ?_
  refine rs_cTv (rs_runVT C hX hH hT hS hl (J_Sp_rule l hfl h_v0 hF) rc_Sp_rule tw_621 tw_622 tw_623 h_v0 ⟨rfl, by decide, by decide⟩ rfl ⟨⟨rfl, rfl⟩, ⟨by decide, by decide⟩, by decide, by decide⟩ (Nat.le_of_ble_eq_true rfl) rfl d_La_rule_6) hS (fun σ51 H locs hH hT hS hF => ?_) (fun x52 k53 σ51 ce H locs hH hT hS hF hce => ?_)
  · refine lv_goto hx hb d_La_rule_9 (tgt := 20) rfl ?_
    refine lv_iconst hx hb d_La_rule_20 ki_0 ?_
    exact rs_iret C hH hT hS hF d_La_rule_21
  · rcases hF with hF | hF
    · obtain ⟨hk, hF⟩ := hF
      subst hk
      refine rs_k1 (k := 1) C hX hh (by decide) (by decide) tw_527 cw_1 hce ?_
      refine lv_astore hx hb d_La_rule_12 hl (by decide) (lv' := [(5, .ref x52), (0, .ref (Bm + v0)), (1, .int x1), (2, .int x2), (3, .int x3), (4, .int x4)]) rfl (fun ls hl => ?_)
      refine lv_iconst hx hb d_La_rule_14 ki_1 ?_
      exact rs_iret C hH hT hS hF d_La_rule_15
    · obtain ⟨hk, hF⟩ := hF
      subst hk
      refine rs_k2 (k := 2) (k0 := 1) C hX hh (by decide) (by decide) tw_527 tw_528 cw_2 nc_2_1 hce ?_
      refine lv_astore hx hb d_La_rule_16 hl (by decide) (lv' := [(5, .ref x52), (0, .ref (Bm + v0)), (1, .int x1), (2, .int x2), (3, .int x3), (4, .int x4)]) rfl (fun ls hl => ?_)
      refine lv_iconst hx hb d_La_rule_18 ki_2 ?_
      exact rs_iret C hH hT hS hF d_La_rule_19
/-! RouteSpeakerLaw.unrule(LRouteSpeaker;I)I -/
theorem d_La_unrule_0 : decode method_5_code 0 = .ok (.aload_n 0, 1) := by decide +kernel
theorem d_La_unrule_1 : decode method_5_code 1 = .ok (.iload_n 1, 1) := by decide +kernel
theorem d_La_unrule_2 : decode method_5_code 2 = .ok (.invokevirtual 21, 3) := by decide +kernel
theorem d_La_unrule_5 : decode method_5_code 5 = .ok (.goto (6), 3) := by decide +kernel
theorem d_La_unrule_8 : decode method_5_code 8 = .ok (.astore_n 2, 1) := by decide +kernel
theorem d_La_unrule_9 : decode method_5_code 9 = .ok (.iconst 1, 1) := by decide +kernel
theorem d_La_unrule_10 : decode method_5_code 10 = .ok (.ireturn, 1) := by decide +kernel
theorem d_La_unrule_11 : decode method_5_code 11 = .ok (.iconst 0, 1) := by decide +kernel
theorem d_La_unrule_12 : decode method_5_code 12 = .ok (.ireturn, 1) := by decide +kernel
def F_La_unrule (N : Nat → Nat) (v0 : Nat) (x1 : Int32) (σ : rs_Mem) (Q : Int32 → rs_Mem → Prop) : Prop :=
  (F_Sp_unrule N v0 x1 σ (fun σ51 => (Q (0 : Int32) σ51)) (fun k53 σ51 => ((k53 = 1 ∧ (Q (1 : Int32) σ51)))))
abbrev y_La_unrule : MethodName := ({ cls := "RouteSpeakerLaw", name := "unrule", desc := "(LRouteSpeaker;I)I" } : Jvm.MethodName)
abbrev hs_La_unrule : List (Nat × Nat × Nat × Nat) := [(0, 5, 8, 13)]
set_option maxRecDepth 20000 in
theorem J_La_unrule (l : Launch) (hfl : l.flags = flags0) {G : rs_G} {Bm : Nat} {S : rs_Shp} {v0 : Nat} {x1 : Int32} {σ : rs_Mem} {Q : Int32 → rs_Mem → Prop} (h_v0 : rs_Ok S 1 v0) (hF : F_La_unrule S.2.2 v0 x1 σ Q) :
    Met l y_La_unrule (rs_wsW y_La_unrule method_5_code 3 (some .int) hs_La_unrule) { frames := 7, cells := 1, slots := 6, locals := 161 } (rs_PT G Bm S σ [.ref (Bm + v0), .int x1]) (rs_Qi G Bm S Q) 1 6 (rs_A Bm) := by
  refine rs_metW (own := "RouteSpeakerLaw") (by decide) rfl (Nat.le_of_ble_eq_true rfl) (fun p e s m below meth c ls C hX hh hl hH hT hS => ?_)
  replace hl : lv_has ls 3 [(0, .ref (Bm + v0)), (1, .int x1)] := hl
  have hx := C.1
  have hb := C.2.1
  unfold F_La_unrule at hF
  refine lv_aload_n hx hb d_La_unrule_0 rfl (lv_at hl 0 rfl) ?_
  refine lv_iload_n hx hb d_La_unrule_1 rfl (lv_at hl 1 rfl) ?_
  refine rs_cTv (rs_runVT C hX hH hT hS hl (J_Sp_unrule l hfl h_v0 hF) rc_Sp_unrule tw_635 tw_636 tw_637 h_v0 ⟨rfl, by decide, by decide⟩ rfl ⟨⟨rfl, rfl⟩, ⟨by decide, by decide⟩, by decide, by decide⟩ (Nat.le_of_ble_eq_true rfl) rfl d_La_unrule_2) hS (fun σ51 H locs hH hT hS hF => ?_) (fun x52 k53 σ51 ce H locs hH hT hS hF hce => ?_)
  · refine lv_goto hx hb d_La_unrule_5 (tgt := 11) rfl ?_
    refine lv_iconst hx hb d_La_unrule_11 ki_0 ?_
    exact rs_iret C hH hT hS hF d_La_unrule_12
  · obtain ⟨hk, hF⟩ := hF
    subst hk
    refine rs_k1 (k := 1) C hX hh (by decide) (by decide) tw_527 cw_1 hce ?_
    refine lv_astore_n hx hb d_La_unrule_8 rfl hl (by decide) (lv' := [(2, .ref x52), (0, .ref (Bm + v0)), (1, .int x1)]) rfl (fun ls hl => ?_)
    refine lv_iconst hx hb d_La_unrule_9 ki_1 ?_
    exact rs_iret C hH hT hS hF d_La_unrule_10
/-! RouteSpeakerLaw.outbound(LRouteSpeaker;IIII)I -/
theorem d_La_outbound_0 : decode method_6_code 0 = .ok (.aload_n 0, 1) := by decide +kernel
theorem d_La_outbound_1 : decode method_6_code 1 = .ok (.iload_n 1, 1) := by decide +kernel
theorem d_La_outbound_2 : decode method_6_code 2 = .ok (.iload_n 2, 1) := by decide +kernel
theorem d_La_outbound_3 : decode method_6_code 3 = .ok (.iload_n 3, 1) := by decide +kernel
theorem d_La_outbound_4 : decode method_6_code 4 = .ok (.iload 4, 2) := by decide +kernel
theorem d_La_outbound_6 : decode method_6_code 6 = .ok (.invokevirtual 25, 3) := by decide +kernel
theorem d_La_outbound_9 : decode method_6_code 9 = .ok (.goto (7), 3) := by decide +kernel
theorem d_La_outbound_12 : decode method_6_code 12 = .ok (.astore 5, 2) := by decide +kernel
theorem d_La_outbound_14 : decode method_6_code 14 = .ok (.iconst 1, 1) := by decide +kernel
theorem d_La_outbound_15 : decode method_6_code 15 = .ok (.ireturn, 1) := by decide +kernel
theorem d_La_outbound_16 : decode method_6_code 16 = .ok (.iconst 0, 1) := by decide +kernel
theorem d_La_outbound_17 : decode method_6_code 17 = .ok (.ireturn, 1) := by decide +kernel
def F_La_outbound (N : Nat → Nat) (v0 : Nat) (x1 : Int32) (x2 : Int32) (x3 : Int32) (x4 : Int32) (σ : rs_Mem) (Q : Int32 → rs_Mem → Prop) : Prop :=
  (F_Sp_outbound N v0 x1 x2 x3 x4 σ (fun σ51 => (Q (0 : Int32) σ51)) (fun k53 σ51 => ((k53 = 1 ∧ (Q (1 : Int32) σ51)))))
abbrev y_La_outbound : MethodName := ({ cls := "RouteSpeakerLaw", name := "outbound", desc := "(LRouteSpeaker;IIII)I" } : Jvm.MethodName)
abbrev hs_La_outbound : List (Nat × Nat × Nat × Nat) := [(0, 9, 12, 13)]
set_option maxRecDepth 20000 in
theorem J_La_outbound (l : Launch) (hfl : l.flags = flags0) {G : rs_G} {Bm : Nat} {S : rs_Shp} {v0 : Nat} {x1 : Int32} {x2 : Int32} {x3 : Int32} {x4 : Int32} {σ : rs_Mem} {Q : Int32 → rs_Mem → Prop} (h_v0 : rs_Ok S 1 v0) (hF : F_La_outbound S.2.2 v0 x1 x2 x3 x4 σ Q) :
    Met l y_La_outbound (rs_wsW y_La_outbound method_6_code 6 (some .int) hs_La_outbound) { frames := 7, cells := 1, slots := 6, locals := 164 } (rs_PT G Bm S σ [.ref (Bm + v0), .int x1, .int x2, .int x3, .int x4]) (rs_Qi G Bm S Q) 1 6 (rs_A Bm) := by
  refine rs_metW (own := "RouteSpeakerLaw") (by decide) rfl (Nat.le_of_ble_eq_true rfl) (fun p e s m below meth c ls C hX hh hl hH hT hS => ?_)
  replace hl : lv_has ls 6 [(0, .ref (Bm + v0)), (1, .int x1), (2, .int x2), (3, .int x3), (4, .int x4)] := hl
  have hx := C.1
  have hb := C.2.1
  unfold F_La_outbound at hF
  refine lv_aload_n hx hb d_La_outbound_0 rfl (lv_at hl 0 rfl) ?_
  refine lv_iload_n hx hb d_La_outbound_1 rfl (lv_at hl 1 rfl) ?_
  refine lv_iload_n hx hb d_La_outbound_2 rfl (lv_at hl 2 rfl) ?_
  refine lv_iload_n hx hb d_La_outbound_3 rfl (lv_at hl 3 rfl) ?_
  refine lv_iload hx hb d_La_outbound_4 (lv_at hl 4 rfl) ?_
  refine rs_cTv (rs_runVT C hX hH hT hS hl (J_Sp_outbound l hfl h_v0 hF) rc_Sp_outbound tw_646 tw_647 tw_648 h_v0 ⟨rfl, by decide, by decide⟩ rfl ⟨⟨rfl, rfl⟩, ⟨by decide, by decide⟩, by decide, by decide⟩ (Nat.le_of_ble_eq_true rfl) rfl d_La_outbound_6) hS (fun σ51 H locs hH hT hS hF => ?_) (fun x52 k53 σ51 ce H locs hH hT hS hF hce => ?_)
  · refine lv_goto hx hb d_La_outbound_9 (tgt := 16) rfl ?_
    refine lv_iconst hx hb d_La_outbound_16 ki_0 ?_
    exact rs_iret C hH hT hS hF d_La_outbound_17
  · obtain ⟨hk, hF⟩ := hF
    subst hk
    refine rs_k1 (k := 1) C hX hh (by decide) (by decide) tw_527 cw_1 hce ?_
    refine lv_astore hx hb d_La_outbound_12 hl (by decide) (lv' := [(5, .ref x52), (0, .ref (Bm + v0)), (1, .int x1), (2, .int x2), (3, .int x3), (4, .int x4)]) rfl (fun ls hl => ?_)
    refine lv_iconst hx hb d_La_outbound_14 ki_1 ?_
    exact rs_iret C hH hT hS hF d_La_outbound_15
/-! RouteSpeakerLaw.originate(LRouteSpeaker;II[J)I -/
theorem d_La_originate_0 : decode method_7_code 0 = .ok (.aload_n 3, 1) := by decide +kernel
theorem d_La_originate_1 : decode method_7_code 1 = .ok (.iconst 0, 1) := by decide +kernel
theorem d_La_originate_2 : decode method_7_code 2 = .ok (.aload_n 0, 1) := by decide +kernel
theorem d_La_originate_3 : decode method_7_code 3 = .ok (.iload_n 1, 1) := by decide +kernel
theorem d_La_originate_4 : decode method_7_code 4 = .ok (.iload_n 2, 1) := by decide +kernel
theorem d_La_originate_5 : decode method_7_code 5 = .ok (.invokevirtual 28, 3) := by decide +kernel
theorem d_La_originate_8 : decode method_7_code 8 = .ok (.ifCond .eq (7), 3) := by decide +kernel
theorem d_La_originate_11 : decode method_7_code 11 = .ok (.lconst 1, 1) := by decide +kernel
theorem d_La_originate_12 : decode method_7_code 12 = .ok (.goto (4), 3) := by decide +kernel
theorem d_La_originate_15 : decode method_7_code 15 = .ok (.lconst 0, 1) := by decide +kernel
theorem d_La_originate_16 : decode method_7_code 16 = .ok (.lastore, 1) := by decide +kernel
theorem d_La_originate_17 : decode method_7_code 17 = .ok (.goto (11), 3) := by decide +kernel
theorem d_La_originate_20 : decode method_7_code 20 = .ok (.astore 4, 2) := by decide +kernel
theorem d_La_originate_22 : decode method_7_code 22 = .ok (.iconst 1, 1) := by decide +kernel
theorem d_La_originate_23 : decode method_7_code 23 = .ok (.ireturn, 1) := by decide +kernel
theorem d_La_originate_24 : decode method_7_code 24 = .ok (.astore 4, 2) := by decide +kernel
theorem d_La_originate_26 : decode method_7_code 26 = .ok (.iconst 2, 1) := by decide +kernel
theorem d_La_originate_27 : decode method_7_code 27 = .ok (.ireturn, 1) := by decide +kernel
theorem d_La_originate_28 : decode method_7_code 28 = .ok (.iconst 0, 1) := by decide +kernel
theorem d_La_originate_29 : decode method_7_code 29 = .ok (.ireturn, 1) := by decide +kernel
def F_La_originate (N : Nat → Nat) (v0 : Nat) (x1 : Int32) (x2 : Int32) (v3 : Nat) (σ : rs_Mem) (Q : Int32 → rs_Mem → Prop) : Prop :=
  (F_Sp_originate N v0 x1 x2 σ (fun x54 σ51 => ((x54 = 0 → (vp_in (0 : Int32) (N v3) ∧ ∀ σ56 : rs_Mem, σ56 = rs_sL σ51 v3 (0 : Int32).toNatClampNeg (0 : Int64) → (Q (0 : Int32) σ56))) ∧ (¬ (x54 = 0) → (vp_in (0 : Int32) (N v3) ∧ ∀ σ56 : rs_Mem, σ56 = rs_sL σ51 v3 (0 : Int32).toNatClampNeg (1 : Int64) → (Q (0 : Int32) σ56))))) (fun k53 σ51 => ((k53 = 1 ∧ (Q (1 : Int32) σ51)) ∨ (k53 = 2 ∧ (Q (2 : Int32) σ51)))))
abbrev y_La_originate : MethodName := ({ cls := "RouteSpeakerLaw", name := "originate", desc := "(LRouteSpeaker;II[J)I" } : Jvm.MethodName)
abbrev hs_La_originate : List (Nat × Nat × Nat × Nat) := [(0, 17, 20, 13), (0, 17, 24, 15)]
set_option maxRecDepth 20000 in
theorem J_La_originate (l : Launch) (hfl : l.flags = flags0) {G : rs_G} {Bm : Nat} {S : rs_Shp} {v0 : Nat} {x1 : Int32} {x2 : Int32} {v3 : Nat} {σ : rs_Mem} {Q : Int32 → rs_Mem → Prop} (h_v0 : rs_Ok S 1 v0) (h_v3 : rs_Ok S 22 v3) (hF : F_La_originate S.2.2 v0 x1 x2 v3 σ Q) :
    Met l y_La_originate (rs_wsW y_La_originate method_7_code 5 (some .int) hs_La_originate) { frames := 7, cells := 1, slots := 6, locals := 163 } (rs_PT G Bm S σ [.ref (Bm + v0), .int x1, .int x2, .ref (Bm + v3)]) (rs_Qi G Bm S Q) 1 6 (rs_A Bm) := by
  refine rs_metW (own := "RouteSpeakerLaw") (by decide) rfl (Nat.le_of_ble_eq_true rfl) (fun p e s m below meth c ls C hX hh hl hH hT hS => ?_)
  replace hl : lv_has ls 5 [(0, .ref (Bm + v0)), (1, .int x1), (2, .int x2), (3, .ref (Bm + v3))] := hl
  have hx := C.1
  have hb := C.2.1
  unfold F_La_originate at hF
  refine lv_aload_n hx hb d_La_originate_0 rfl (lv_at hl 3 rfl) ?_
  refine lv_iconst hx hb d_La_originate_1 ki_0 ?_
  refine lv_aload_n hx hb d_La_originate_2 rfl (lv_at hl 0 rfl) ?_
  refine lv_iload_n hx hb d_La_originate_3 rfl (lv_at hl 1 rfl) ?_
  refine lv_iload_n hx hb d_La_originate_4 rfl (lv_at hl 2 rfl) ?_
  refine rs_cTi (rs_runVT C hX hH hT hS hl (J_Sp_originate l hfl h_v0 hF) rc_Sp_originate tw_653 tw_654 tw_655 h_v0 ⟨rfl, by decide, by decide⟩ rfl ⟨⟨rfl, rfl⟩, ⟨by decide, by decide⟩, by decide, by decide⟩ (Nat.le_of_ble_eq_true rfl) rfl d_La_originate_5) hS (fun x54 σ51 H locs hH hT hS hF => ?_) (fun x52 k53 σ51 ce H locs hH hT hS hF hce => ?_)
  · refine lv_if_eq hx hb d_La_originate_8 (tgt := 15) rfl (fun hc => ?_) (fun hc => ?_)
    · replace hF := hF.1 hc
      refine lv_lconst hx hb d_La_originate_15 (v := (0 : Int64)) rfl ?_
      obtain ⟨g55, hF⟩ := hF
      refine rs_last C hH hT hS h_v3 g55 d_La_originate_16 (fun σ56 H locs eσ56 hH hT hS => ?_)
      replace hF := hF σ56 eσ56
      refine lv_goto hx hb d_La_originate_17 (tgt := 28) rfl ?_
      refine lv_iconst hx hb d_La_originate_28 ki_0 ?_
      exact rs_iret C hH hT hS hF d_La_originate_29
    · replace hF := hF.2 hc
      refine lv_lconst hx hb d_La_originate_11 (v := (1 : Int64)) rfl ?_
      refine lv_goto hx hb d_La_originate_12 (tgt := 16) rfl ?_
      obtain ⟨g55, hF⟩ := hF
      refine rs_last C hH hT hS h_v3 g55 d_La_originate_16 (fun σ56 H locs eσ56 hH hT hS => ?_)
      replace hF := hF σ56 eσ56
      refine lv_goto hx hb d_La_originate_17 (tgt := 28) rfl ?_
      refine lv_iconst hx hb d_La_originate_28 ki_0 ?_
      exact rs_iret C hH hT hS hF d_La_originate_29
  · rcases hF with hF | hF
    · obtain ⟨hk, hF⟩ := hF
      subst hk
      refine rs_k1 (k := 1) C hX hh (by decide) (by decide) tw_527 cw_1 hce ?_
      refine lv_astore hx hb d_La_originate_20 hl (by decide) (lv' := [(4, .ref x52), (0, .ref (Bm + v0)), (1, .int x1), (2, .int x2), (3, .ref (Bm + v3))]) rfl (fun ls hl => ?_)
      refine lv_iconst hx hb d_La_originate_22 ki_1 ?_
      exact rs_iret C hH hT hS hF d_La_originate_23
    · obtain ⟨hk, hF⟩ := hF
      subst hk
      refine rs_k2 (k := 2) (k0 := 1) C hX hh (by decide) (by decide) tw_527 tw_528 cw_2 nc_2_1 hce ?_
      refine lv_astore hx hb d_La_originate_24 hl (by decide) (lv' := [(4, .ref x52), (0, .ref (Bm + v0)), (1, .int x1), (2, .int x2), (3, .ref (Bm + v3))]) rfl (fun ls hl => ?_)
      refine lv_iconst hx hb d_La_originate_26 ki_2 ?_
      exact rs_iret C hH hT hS hF d_La_originate_27
/-! RouteSpeakerLaw.retract(LRouteSpeaker;II[J)I -/
theorem d_La_retract_0 : decode method_8_code 0 = .ok (.aload_n 3, 1) := by decide +kernel
theorem d_La_retract_1 : decode method_8_code 1 = .ok (.iconst 0, 1) := by decide +kernel
theorem d_La_retract_2 : decode method_8_code 2 = .ok (.aload_n 0, 1) := by decide +kernel
theorem d_La_retract_3 : decode method_8_code 3 = .ok (.iload_n 1, 1) := by decide +kernel
theorem d_La_retract_4 : decode method_8_code 4 = .ok (.iload_n 2, 1) := by decide +kernel
theorem d_La_retract_5 : decode method_8_code 5 = .ok (.invokevirtual 32, 3) := by decide +kernel
theorem d_La_retract_8 : decode method_8_code 8 = .ok (.ifCond .eq (7), 3) := by decide +kernel
theorem d_La_retract_11 : decode method_8_code 11 = .ok (.lconst 1, 1) := by decide +kernel
theorem d_La_retract_12 : decode method_8_code 12 = .ok (.goto (4), 3) := by decide +kernel
theorem d_La_retract_15 : decode method_8_code 15 = .ok (.lconst 0, 1) := by decide +kernel
theorem d_La_retract_16 : decode method_8_code 16 = .ok (.lastore, 1) := by decide +kernel
theorem d_La_retract_17 : decode method_8_code 17 = .ok (.goto (7), 3) := by decide +kernel
theorem d_La_retract_20 : decode method_8_code 20 = .ok (.astore 4, 2) := by decide +kernel
theorem d_La_retract_22 : decode method_8_code 22 = .ok (.iconst 1, 1) := by decide +kernel
theorem d_La_retract_23 : decode method_8_code 23 = .ok (.ireturn, 1) := by decide +kernel
theorem d_La_retract_24 : decode method_8_code 24 = .ok (.iconst 0, 1) := by decide +kernel
theorem d_La_retract_25 : decode method_8_code 25 = .ok (.ireturn, 1) := by decide +kernel
def F_La_retract (N : Nat → Nat) (v0 : Nat) (x1 : Int32) (x2 : Int32) (v3 : Nat) (σ : rs_Mem) (Q : Int32 → rs_Mem → Prop) : Prop :=
  (F_Sp_retract N v0 x1 x2 σ (fun x54 σ51 => ((x54 = 0 → (vp_in (0 : Int32) (N v3) ∧ ∀ σ56 : rs_Mem, σ56 = rs_sL σ51 v3 (0 : Int32).toNatClampNeg (0 : Int64) → (Q (0 : Int32) σ56))) ∧ (¬ (x54 = 0) → (vp_in (0 : Int32) (N v3) ∧ ∀ σ56 : rs_Mem, σ56 = rs_sL σ51 v3 (0 : Int32).toNatClampNeg (1 : Int64) → (Q (0 : Int32) σ56))))) (fun k53 σ51 => ((k53 = 1 ∧ (Q (1 : Int32) σ51)))))
abbrev y_La_retract : MethodName := ({ cls := "RouteSpeakerLaw", name := "retract", desc := "(LRouteSpeaker;II[J)I" } : Jvm.MethodName)
abbrev hs_La_retract : List (Nat × Nat × Nat × Nat) := [(0, 17, 20, 13)]
set_option maxRecDepth 20000 in
theorem J_La_retract (l : Launch) (hfl : l.flags = flags0) {G : rs_G} {Bm : Nat} {S : rs_Shp} {v0 : Nat} {x1 : Int32} {x2 : Int32} {v3 : Nat} {σ : rs_Mem} {Q : Int32 → rs_Mem → Prop} (h_v0 : rs_Ok S 1 v0) (h_v3 : rs_Ok S 22 v3) (hF : F_La_retract S.2.2 v0 x1 x2 v3 σ Q) :
    Met l y_La_retract (rs_wsW y_La_retract method_8_code 5 (some .int) hs_La_retract) { frames := 7, cells := 1, slots := 6, locals := 163 } (rs_PT G Bm S σ [.ref (Bm + v0), .int x1, .int x2, .ref (Bm + v3)]) (rs_Qi G Bm S Q) 1 6 (rs_A Bm) := by
  refine rs_metW (own := "RouteSpeakerLaw") (by decide) rfl (Nat.le_of_ble_eq_true rfl) (fun p e s m below meth c ls C hX hh hl hH hT hS => ?_)
  replace hl : lv_has ls 5 [(0, .ref (Bm + v0)), (1, .int x1), (2, .int x2), (3, .ref (Bm + v3))] := hl
  have hx := C.1
  have hb := C.2.1
  unfold F_La_retract at hF
  refine lv_aload_n hx hb d_La_retract_0 rfl (lv_at hl 3 rfl) ?_
  refine lv_iconst hx hb d_La_retract_1 ki_0 ?_
  refine lv_aload_n hx hb d_La_retract_2 rfl (lv_at hl 0 rfl) ?_
  refine lv_iload_n hx hb d_La_retract_3 rfl (lv_at hl 1 rfl) ?_
  refine lv_iload_n hx hb d_La_retract_4 rfl (lv_at hl 2 rfl) ?_
  refine rs_cTi (rs_runVT C hX hH hT hS hl (J_Sp_retract l hfl h_v0 hF) rc_Sp_retract tw_668 tw_669 tw_670 h_v0 ⟨rfl, by decide, by decide⟩ rfl ⟨⟨rfl, rfl⟩, ⟨by decide, by decide⟩, by decide, by decide⟩ (Nat.le_of_ble_eq_true rfl) rfl d_La_retract_5) hS (fun x54 σ51 H locs hH hT hS hF => ?_) (fun x52 k53 σ51 ce H locs hH hT hS hF hce => ?_)
  · refine lv_if_eq hx hb d_La_retract_8 (tgt := 15) rfl (fun hc => ?_) (fun hc => ?_)
    · replace hF := hF.1 hc
      refine lv_lconst hx hb d_La_retract_15 (v := (0 : Int64)) rfl ?_
      obtain ⟨g55, hF⟩ := hF
      refine rs_last C hH hT hS h_v3 g55 d_La_retract_16 (fun σ56 H locs eσ56 hH hT hS => ?_)
      replace hF := hF σ56 eσ56
      refine lv_goto hx hb d_La_retract_17 (tgt := 24) rfl ?_
      refine lv_iconst hx hb d_La_retract_24 ki_0 ?_
      exact rs_iret C hH hT hS hF d_La_retract_25
    · replace hF := hF.2 hc
      refine lv_lconst hx hb d_La_retract_11 (v := (1 : Int64)) rfl ?_
      refine lv_goto hx hb d_La_retract_12 (tgt := 16) rfl ?_
      obtain ⟨g55, hF⟩ := hF
      refine rs_last C hH hT hS h_v3 g55 d_La_retract_16 (fun σ56 H locs eσ56 hH hT hS => ?_)
      replace hF := hF σ56 eσ56
      refine lv_goto hx hb d_La_retract_17 (tgt := 24) rfl ?_
      refine lv_iconst hx hb d_La_retract_24 ki_0 ?_
      exact rs_iret C hH hT hS hF d_La_retract_25
  · obtain ⟨hk, hF⟩ := hF
    subst hk
    refine rs_k1 (k := 1) C hX hh (by decide) (by decide) tw_527 cw_1 hce ?_
    refine lv_astore hx hb d_La_retract_20 hl (by decide) (lv' := [(4, .ref x52), (0, .ref (Bm + v0)), (1, .int x1), (2, .int x2), (3, .ref (Bm + v3))]) rfl (fun ls hl => ?_)
    refine lv_iconst hx hb d_La_retract_22 ki_1 ?_
    exact rs_iret C hH hT hS hF d_La_retract_23
/-! RouteSpeakerLaw.start(LRouteSpeaker;I[J)I -/
theorem d_La_start_0 : decode method_9_code 0 = .ok (.aload_n 2, 1) := by decide +kernel
theorem d_La_start_1 : decode method_9_code 1 = .ok (.iconst 0, 1) := by decide +kernel
theorem d_La_start_2 : decode method_9_code 2 = .ok (.aload_n 0, 1) := by decide +kernel
theorem d_La_start_3 : decode method_9_code 3 = .ok (.iload_n 1, 1) := by decide +kernel
theorem d_La_start_4 : decode method_9_code 4 = .ok (.invokevirtual 35, 3) := by decide +kernel
theorem d_La_start_7 : decode method_9_code 7 = .ok (.ifCond .eq (7), 3) := by decide +kernel
theorem d_La_start_10 : decode method_9_code 10 = .ok (.lconst 1, 1) := by decide +kernel
theorem d_La_start_11 : decode method_9_code 11 = .ok (.goto (4), 3) := by decide +kernel
theorem d_La_start_14 : decode method_9_code 14 = .ok (.lconst 0, 1) := by decide +kernel
theorem d_La_start_15 : decode method_9_code 15 = .ok (.lastore, 1) := by decide +kernel
theorem d_La_start_16 : decode method_9_code 16 = .ok (.goto (6), 3) := by decide +kernel
theorem d_La_start_19 : decode method_9_code 19 = .ok (.astore_n 3, 1) := by decide +kernel
theorem d_La_start_20 : decode method_9_code 20 = .ok (.iconst 1, 1) := by decide +kernel
theorem d_La_start_21 : decode method_9_code 21 = .ok (.ireturn, 1) := by decide +kernel
theorem d_La_start_22 : decode method_9_code 22 = .ok (.iconst 0, 1) := by decide +kernel
theorem d_La_start_23 : decode method_9_code 23 = .ok (.ireturn, 1) := by decide +kernel
def F_La_start (N : Nat → Nat) (v0 : Nat) (x1 : Int32) (v2 : Nat) (σ : rs_Mem) (Q : Int32 → rs_Mem → Prop) : Prop :=
  (F_Sp_start N v0 x1 σ (fun x54 σ51 => ((x54 = 0 → (vp_in (0 : Int32) (N v2) ∧ ∀ σ56 : rs_Mem, σ56 = rs_sL σ51 v2 (0 : Int32).toNatClampNeg (0 : Int64) → (Q (0 : Int32) σ56))) ∧ (¬ (x54 = 0) → (vp_in (0 : Int32) (N v2) ∧ ∀ σ56 : rs_Mem, σ56 = rs_sL σ51 v2 (0 : Int32).toNatClampNeg (1 : Int64) → (Q (0 : Int32) σ56))))) (fun k53 σ51 => ((k53 = 1 ∧ (Q (1 : Int32) σ51)))))
abbrev y_La_start : MethodName := ({ cls := "RouteSpeakerLaw", name := "start", desc := "(LRouteSpeaker;I[J)I" } : Jvm.MethodName)
abbrev hs_La_start : List (Nat × Nat × Nat × Nat) := [(0, 16, 19, 13)]
set_option maxRecDepth 20000 in
theorem J_La_start (l : Launch) (hfl : l.flags = flags0) {G : rs_G} {Bm : Nat} {S : rs_Shp} {v0 : Nat} {x1 : Int32} {v2 : Nat} {σ : rs_Mem} {Q : Int32 → rs_Mem → Prop} (h_v0 : rs_Ok S 1 v0) (h_v2 : rs_Ok S 22 v2) (hF : F_La_start S.2.2 v0 x1 v2 σ Q) :
    Met l y_La_start (rs_wsW y_La_start method_9_code 4 (some .int) hs_La_start) { frames := 7, cells := 1, slots := 6, locals := 161 } (rs_PT G Bm S σ [.ref (Bm + v0), .int x1, .ref (Bm + v2)]) (rs_Qi G Bm S Q) 1 6 (rs_A Bm) := by
  refine rs_metW (own := "RouteSpeakerLaw") (by decide) rfl (Nat.le_of_ble_eq_true rfl) (fun p e s m below meth c ls C hX hh hl hH hT hS => ?_)
  replace hl : lv_has ls 4 [(0, .ref (Bm + v0)), (1, .int x1), (2, .ref (Bm + v2))] := hl
  have hx := C.1
  have hb := C.2.1
  unfold F_La_start at hF
  refine lv_aload_n hx hb d_La_start_0 rfl (lv_at hl 2 rfl) ?_
  refine lv_iconst hx hb d_La_start_1 ki_0 ?_
  refine lv_aload_n hx hb d_La_start_2 rfl (lv_at hl 0 rfl) ?_
  refine lv_iload_n hx hb d_La_start_3 rfl (lv_at hl 1 rfl) ?_
  refine rs_cTi (rs_runVT C hX hH hT hS hl (J_Sp_start l hfl h_v0 hF) rc_Sp_start tw_676 tw_677 tw_678 h_v0 ⟨rfl, by decide, by decide⟩ rfl ⟨⟨rfl, rfl⟩, ⟨by decide, by decide⟩, by decide, by decide⟩ (Nat.le_of_ble_eq_true rfl) rfl d_La_start_4) hS (fun x54 σ51 H locs hH hT hS hF => ?_) (fun x52 k53 σ51 ce H locs hH hT hS hF hce => ?_)
  · refine lv_if_eq hx hb d_La_start_7 (tgt := 14) rfl (fun hc => ?_) (fun hc => ?_)
    · replace hF := hF.1 hc
      refine lv_lconst hx hb d_La_start_14 (v := (0 : Int64)) rfl ?_
      obtain ⟨g55, hF⟩ := hF
      refine rs_last C hH hT hS h_v2 g55 d_La_start_15 (fun σ56 H locs eσ56 hH hT hS => ?_)
      replace hF := hF σ56 eσ56
      refine lv_goto hx hb d_La_start_16 (tgt := 22) rfl ?_
      refine lv_iconst hx hb d_La_start_22 ki_0 ?_
      exact rs_iret C hH hT hS hF d_La_start_23
    · replace hF := hF.2 hc
      refine lv_lconst hx hb d_La_start_10 (v := (1 : Int64)) rfl ?_
      refine lv_goto hx hb d_La_start_11 (tgt := 15) rfl ?_
      obtain ⟨g55, hF⟩ := hF
      refine rs_last C hH hT hS h_v2 g55 d_La_start_15 (fun σ56 H locs eσ56 hH hT hS => ?_)
      replace hF := hF σ56 eσ56
      refine lv_goto hx hb d_La_start_16 (tgt := 22) rfl ?_
      refine lv_iconst hx hb d_La_start_22 ki_0 ?_
      exact rs_iret C hH hT hS hF d_La_start_23
  · obtain ⟨hk, hF⟩ := hF
    subst hk
    refine rs_k1 (k := 1) C hX hh (by decide) (by decide) tw_527 cw_1 hce ?_
    refine lv_astore_n hx hb d_La_start_19 rfl hl (by decide) (lv' := [(3, .ref x52), (0, .ref (Bm + v0)), (1, .int x1), (2, .ref (Bm + v2))]) rfl (fun ls hl => ?_)
    refine lv_iconst hx hb d_La_start_20 ki_1 ?_
    exact rs_iret C hH hT hS hF d_La_start_21
/-! RouteSpeakerLaw.stop(LRouteSpeaker;I[J)I -/
theorem d_La_stop_0 : decode method_10_code 0 = .ok (.aload_n 2, 1) := by decide +kernel
theorem d_La_stop_1 : decode method_10_code 1 = .ok (.iconst 0, 1) := by decide +kernel
theorem d_La_stop_2 : decode method_10_code 2 = .ok (.aload_n 0, 1) := by decide +kernel
theorem d_La_stop_3 : decode method_10_code 3 = .ok (.iload_n 1, 1) := by decide +kernel
theorem d_La_stop_4 : decode method_10_code 4 = .ok (.invokevirtual 39, 3) := by decide +kernel
theorem d_La_stop_7 : decode method_10_code 7 = .ok (.ifCond .eq (7), 3) := by decide +kernel
theorem d_La_stop_10 : decode method_10_code 10 = .ok (.lconst 1, 1) := by decide +kernel
theorem d_La_stop_11 : decode method_10_code 11 = .ok (.goto (4), 3) := by decide +kernel
theorem d_La_stop_14 : decode method_10_code 14 = .ok (.lconst 0, 1) := by decide +kernel
theorem d_La_stop_15 : decode method_10_code 15 = .ok (.lastore, 1) := by decide +kernel
theorem d_La_stop_16 : decode method_10_code 16 = .ok (.goto (6), 3) := by decide +kernel
theorem d_La_stop_19 : decode method_10_code 19 = .ok (.astore_n 3, 1) := by decide +kernel
theorem d_La_stop_20 : decode method_10_code 20 = .ok (.iconst 1, 1) := by decide +kernel
theorem d_La_stop_21 : decode method_10_code 21 = .ok (.ireturn, 1) := by decide +kernel
theorem d_La_stop_22 : decode method_10_code 22 = .ok (.iconst 0, 1) := by decide +kernel
theorem d_La_stop_23 : decode method_10_code 23 = .ok (.ireturn, 1) := by decide +kernel
def F_La_stop (N : Nat → Nat) (v0 : Nat) (x1 : Int32) (v2 : Nat) (σ : rs_Mem) (Q : Int32 → rs_Mem → Prop) : Prop :=
  (F_Sp_stop N v0 x1 σ (fun x54 σ51 => ((x54 = 0 → (vp_in (0 : Int32) (N v2) ∧ ∀ σ56 : rs_Mem, σ56 = rs_sL σ51 v2 (0 : Int32).toNatClampNeg (0 : Int64) → (Q (0 : Int32) σ56))) ∧ (¬ (x54 = 0) → (vp_in (0 : Int32) (N v2) ∧ ∀ σ56 : rs_Mem, σ56 = rs_sL σ51 v2 (0 : Int32).toNatClampNeg (1 : Int64) → (Q (0 : Int32) σ56))))) (fun k53 σ51 => ((k53 = 1 ∧ (Q (1 : Int32) σ51)))))
abbrev y_La_stop : MethodName := ({ cls := "RouteSpeakerLaw", name := "stop", desc := "(LRouteSpeaker;I[J)I" } : Jvm.MethodName)
abbrev hs_La_stop : List (Nat × Nat × Nat × Nat) := [(0, 16, 19, 13)]
set_option maxRecDepth 20000 in
theorem J_La_stop (l : Launch) (hfl : l.flags = flags0) {G : rs_G} {Bm : Nat} {S : rs_Shp} {v0 : Nat} {x1 : Int32} {v2 : Nat} {σ : rs_Mem} {Q : Int32 → rs_Mem → Prop} (h_v0 : rs_Ok S 1 v0) (h_v2 : rs_Ok S 22 v2) (hF : F_La_stop S.2.2 v0 x1 v2 σ Q) :
    Met l y_La_stop (rs_wsW y_La_stop method_10_code 4 (some .int) hs_La_stop) { frames := 7, cells := 1, slots := 6, locals := 161 } (rs_PT G Bm S σ [.ref (Bm + v0), .int x1, .ref (Bm + v2)]) (rs_Qi G Bm S Q) 1 6 (rs_A Bm) := by
  refine rs_metW (own := "RouteSpeakerLaw") (by decide) rfl (Nat.le_of_ble_eq_true rfl) (fun p e s m below meth c ls C hX hh hl hH hT hS => ?_)
  replace hl : lv_has ls 4 [(0, .ref (Bm + v0)), (1, .int x1), (2, .ref (Bm + v2))] := hl
  have hx := C.1
  have hb := C.2.1
  unfold F_La_stop at hF
  refine lv_aload_n hx hb d_La_stop_0 rfl (lv_at hl 2 rfl) ?_
  refine lv_iconst hx hb d_La_stop_1 ki_0 ?_
  refine lv_aload_n hx hb d_La_stop_2 rfl (lv_at hl 0 rfl) ?_
  refine lv_iload_n hx hb d_La_stop_3 rfl (lv_at hl 1 rfl) ?_
  refine rs_cTi (rs_runVT C hX hH hT hS hl (J_Sp_stop l hfl h_v0 hF) rc_Sp_stop tw_687 tw_688 tw_689 h_v0 ⟨rfl, by decide, by decide⟩ rfl ⟨⟨rfl, rfl⟩, ⟨by decide, by decide⟩, by decide, by decide⟩ (Nat.le_of_ble_eq_true rfl) rfl d_La_stop_4) hS (fun x54 σ51 H locs hH hT hS hF => ?_) (fun x52 k53 σ51 ce H locs hH hT hS hF hce => ?_)
  · refine lv_if_eq hx hb d_La_stop_7 (tgt := 14) rfl (fun hc => ?_) (fun hc => ?_)
    · replace hF := hF.1 hc
      refine lv_lconst hx hb d_La_stop_14 (v := (0 : Int64)) rfl ?_
      obtain ⟨g55, hF⟩ := hF
      refine rs_last C hH hT hS h_v2 g55 d_La_stop_15 (fun σ56 H locs eσ56 hH hT hS => ?_)
      replace hF := hF σ56 eσ56
      refine lv_goto hx hb d_La_stop_16 (tgt := 22) rfl ?_
      refine lv_iconst hx hb d_La_stop_22 ki_0 ?_
      exact rs_iret C hH hT hS hF d_La_stop_23
    · replace hF := hF.2 hc
      refine lv_lconst hx hb d_La_stop_10 (v := (1 : Int64)) rfl ?_
      refine lv_goto hx hb d_La_stop_11 (tgt := 15) rfl ?_
      obtain ⟨g55, hF⟩ := hF
      refine rs_last C hH hT hS h_v2 g55 d_La_stop_15 (fun σ56 H locs eσ56 hH hT hS => ?_)
      replace hF := hF σ56 eσ56
      refine lv_goto hx hb d_La_stop_16 (tgt := 22) rfl ?_
      refine lv_iconst hx hb d_La_stop_22 ki_0 ?_
      exact rs_iret C hH hT hS hF d_La_stop_23
  · obtain ⟨hk, hF⟩ := hF
    subst hk
    refine rs_k1 (k := 1) C hX hh (by decide) (by decide) tw_527 cw_1 hce ?_
    refine lv_astore_n hx hb d_La_stop_19 rfl hl (by decide) (lv' := [(3, .ref x52), (0, .ref (Bm + v0)), (1, .int x1), (2, .ref (Bm + v2))]) rfl (fun ls hl => ?_)
    refine lv_iconst hx hb d_La_stop_20 ki_1 ?_
    exact rs_iret C hH hT hS hF d_La_stop_21
/-! RouteSpeakerLaw.feed(LRouteSpeaker;IJI[J)I -/
theorem d_La_feed_0 : decode method_11_code 0 = .ok (.aload 5, 2) := by decide +kernel
theorem d_La_feed_2 : decode method_11_code 2 = .ok (.iconst 0, 1) := by decide +kernel
theorem d_La_feed_3 : decode method_11_code 3 = .ok (.aload_n 0, 1) := by decide +kernel
theorem d_La_feed_4 : decode method_11_code 4 = .ok (.iload_n 1, 1) := by decide +kernel
theorem d_La_feed_5 : decode method_11_code 5 = .ok (.lload_n 2, 1) := by decide +kernel
theorem d_La_feed_6 : decode method_11_code 6 = .ok (.iload 4, 2) := by decide +kernel
theorem d_La_feed_8 : decode method_11_code 8 = .ok (.invokevirtual 42, 3) := by decide +kernel
theorem d_La_feed_11 : decode method_11_code 11 = .ok (.ifCond .eq (7), 3) := by decide +kernel
theorem d_La_feed_14 : decode method_11_code 14 = .ok (.lconst 1, 1) := by decide +kernel
theorem d_La_feed_15 : decode method_11_code 15 = .ok (.goto (4), 3) := by decide +kernel
theorem d_La_feed_18 : decode method_11_code 18 = .ok (.lconst 0, 1) := by decide +kernel
theorem d_La_feed_19 : decode method_11_code 19 = .ok (.lastore, 1) := by decide +kernel
theorem d_La_feed_20 : decode method_11_code 20 = .ok (.goto (7), 3) := by decide +kernel
theorem d_La_feed_23 : decode method_11_code 23 = .ok (.astore 6, 2) := by decide +kernel
theorem d_La_feed_25 : decode method_11_code 25 = .ok (.iconst 1, 1) := by decide +kernel
theorem d_La_feed_26 : decode method_11_code 26 = .ok (.ireturn, 1) := by decide +kernel
theorem d_La_feed_27 : decode method_11_code 27 = .ok (.iconst 0, 1) := by decide +kernel
theorem d_La_feed_28 : decode method_11_code 28 = .ok (.ireturn, 1) := by decide +kernel
def F_La_feed (N : Nat → Nat) (v0 : Nat) (x1 : Int32) (x2 : Int64) (x4 : Int32) (v5 : Nat) (σ : rs_Mem) (Q : Int32 → rs_Mem → Prop) : Prop :=
  (F_Sp_feed N v0 x1 x2 x4 σ (fun x54 σ51 => ((x54 = 0 → (vp_in (0 : Int32) (N v5) ∧ ∀ σ56 : rs_Mem, σ56 = rs_sL σ51 v5 (0 : Int32).toNatClampNeg (0 : Int64) → (Q (0 : Int32) σ56))) ∧ (¬ (x54 = 0) → (vp_in (0 : Int32) (N v5) ∧ ∀ σ56 : rs_Mem, σ56 = rs_sL σ51 v5 (0 : Int32).toNatClampNeg (1 : Int64) → (Q (0 : Int32) σ56))))) (fun k53 σ51 => ((k53 = 1 ∧ (Q (1 : Int32) σ51)))))
abbrev y_La_feed : MethodName := ({ cls := "RouteSpeakerLaw", name := "feed", desc := "(LRouteSpeaker;IJI[J)I" } : Jvm.MethodName)
abbrev hs_La_feed : List (Nat × Nat × Nat × Nat) := [(0, 20, 23, 13)]
set_option maxRecDepth 20000 in
theorem J_La_feed (l : Launch) (hfl : l.flags = flags0) {G : rs_G} {Bm : Nat} {S : rs_Shp} {v0 : Nat} {x1 : Int32} {x2 : Int64} {x4 : Int32} {v5 : Nat} {σ : rs_Mem} {Q : Int32 → rs_Mem → Prop} (h_v0 : rs_Ok S 1 v0) (h_v5 : rs_Ok S 22 v5) (hF : F_La_feed S.2.2 v0 x1 x2 x4 v5 σ Q) :
    Met l y_La_feed (rs_wsW y_La_feed method_11_code 7 (some .int) hs_La_feed) { frames := 7, cells := 1, slots := 6, locals := 182 } (rs_PT G Bm S σ [.ref (Bm + v0), .int x1, .long x2, .int x4, .ref (Bm + v5)]) (rs_Qi G Bm S Q) 1 6 (rs_A Bm) := by
  refine rs_metW (own := "RouteSpeakerLaw") (by decide) rfl (Nat.le_of_ble_eq_true rfl) (fun p e s m below meth c ls C hX hh hl hH hT hS => ?_)
  replace hl : lv_has ls 7 [(0, .ref (Bm + v0)), (1, .int x1), (2, .long x2), (4, .int x4), (5, .ref (Bm + v5))] := hl
  have hx := C.1
  have hb := C.2.1
  unfold F_La_feed at hF
  refine lv_aload hx hb d_La_feed_0 (lv_at hl 4 rfl) ?_
  refine lv_iconst hx hb d_La_feed_2 ki_0 ?_
  refine lv_aload_n hx hb d_La_feed_3 rfl (lv_at hl 0 rfl) ?_
  refine lv_iload_n hx hb d_La_feed_4 rfl (lv_at hl 1 rfl) ?_
  refine lv_lload_n hx hb d_La_feed_5 rfl (lv_at hl 2 rfl) ?_
  refine lv_iload hx hb d_La_feed_6 (lv_at hl 3 rfl) ?_
  refine rs_cTi (rs_runVT C hX hH hT hS hl (J_Sp_feed l hfl h_v0 hF) rc_Sp_feed tw_695 tw_696 tw_697 h_v0 ⟨rfl, by decide, by decide⟩ rfl ⟨⟨rfl, rfl⟩, ⟨by decide, by decide⟩, by decide, by decide⟩ (Nat.le_of_ble_eq_true rfl) rfl d_La_feed_8) hS (fun x54 σ51 H locs hH hT hS hF => ?_) (fun x52 k53 σ51 ce H locs hH hT hS hF hce => ?_)
  · refine lv_if_eq hx hb d_La_feed_11 (tgt := 18) rfl (fun hc => ?_) (fun hc => ?_)
    · replace hF := hF.1 hc
      refine lv_lconst hx hb d_La_feed_18 (v := (0 : Int64)) rfl ?_
      obtain ⟨g55, hF⟩ := hF
      refine rs_last C hH hT hS h_v5 g55 d_La_feed_19 (fun σ56 H locs eσ56 hH hT hS => ?_)
      replace hF := hF σ56 eσ56
      refine lv_goto hx hb d_La_feed_20 (tgt := 27) rfl ?_
      refine lv_iconst hx hb d_La_feed_27 ki_0 ?_
      exact rs_iret C hH hT hS hF d_La_feed_28
    · replace hF := hF.2 hc
      refine lv_lconst hx hb d_La_feed_14 (v := (1 : Int64)) rfl ?_
      refine lv_goto hx hb d_La_feed_15 (tgt := 19) rfl ?_
      obtain ⟨g55, hF⟩ := hF
      refine rs_last C hH hT hS h_v5 g55 d_La_feed_19 (fun σ56 H locs eσ56 hH hT hS => ?_)
      replace hF := hF σ56 eσ56
      refine lv_goto hx hb d_La_feed_20 (tgt := 27) rfl ?_
      refine lv_iconst hx hb d_La_feed_27 ki_0 ?_
      exact rs_iret C hH hT hS hF d_La_feed_28
  · obtain ⟨hk, hF⟩ := hF
    subst hk
    refine rs_k1 (k := 1) C hX hh (by decide) (by decide) tw_527 cw_1 hce ?_
    refine lv_astore hx hb d_La_feed_23 hl (by decide) (lv' := [(6, .ref x52), (0, .ref (Bm + v0)), (1, .int x1), (2, .long x2), (4, .int x4), (5, .ref (Bm + v5))]) rfl (fun ls hl => ?_)
    refine lv_iconst hx hb d_La_feed_25 ki_1 ?_
    exact rs_iret C hH hT hS hF d_La_feed_26
/-! RouteSpeakerLaw.take(LRouteSpeaker;I[J)I -/
theorem d_La_take_0 : decode method_12_code 0 = .ok (.aload_n 2, 1) := by decide +kernel
theorem d_La_take_1 : decode method_12_code 1 = .ok (.iconst 0, 1) := by decide +kernel
theorem d_La_take_2 : decode method_12_code 2 = .ok (.aload_n 0, 1) := by decide +kernel
theorem d_La_take_3 : decode method_12_code 3 = .ok (.iload_n 1, 1) := by decide +kernel
theorem d_La_take_4 : decode method_12_code 4 = .ok (.invokevirtual 46, 3) := by decide +kernel
theorem d_La_take_7 : decode method_12_code 7 = .ok (.i2l, 1) := by decide +kernel
theorem d_La_take_8 : decode method_12_code 8 = .ok (.lastore, 1) := by decide +kernel
theorem d_La_take_9 : decode method_12_code 9 = .ok (.goto (9), 3) := by decide +kernel
theorem d_La_take_12 : decode method_12_code 12 = .ok (.astore_n 3, 1) := by decide +kernel
theorem d_La_take_13 : decode method_12_code 13 = .ok (.iconst 1, 1) := by decide +kernel
theorem d_La_take_14 : decode method_12_code 14 = .ok (.ireturn, 1) := by decide +kernel
theorem d_La_take_15 : decode method_12_code 15 = .ok (.astore_n 3, 1) := by decide +kernel
theorem d_La_take_16 : decode method_12_code 16 = .ok (.iconst 2, 1) := by decide +kernel
theorem d_La_take_17 : decode method_12_code 17 = .ok (.ireturn, 1) := by decide +kernel
theorem d_La_take_18 : decode method_12_code 18 = .ok (.iconst 0, 1) := by decide +kernel
theorem d_La_take_19 : decode method_12_code 19 = .ok (.ireturn, 1) := by decide +kernel
def F_La_take (N : Nat → Nat) (v0 : Nat) (x1 : Int32) (v2 : Nat) (σ : rs_Mem) (Q : Int32 → rs_Mem → Prop) : Prop :=
  (F_Sp_take N v0 x1 σ (fun x54 σ51 => (vp_in (0 : Int32) (N v2) ∧ ∀ σ56 : rs_Mem, σ56 = rs_sL σ51 v2 (0 : Int32).toNatClampNeg (x54.toInt64) → (Q (0 : Int32) σ56))) (fun k53 σ51 => ((k53 = 1 ∧ (Q (1 : Int32) σ51)) ∨ (k53 = 3 ∧ (Q (2 : Int32) σ51)))))
abbrev y_La_take : MethodName := ({ cls := "RouteSpeakerLaw", name := "take", desc := "(LRouteSpeaker;I[J)I" } : Jvm.MethodName)
abbrev hs_La_take : List (Nat × Nat × Nat × Nat) := [(0, 9, 12, 13), (0, 9, 15, 50)]
set_option maxRecDepth 20000 in
theorem J_La_take (l : Launch) (hfl : l.flags = flags0) {G : rs_G} {Bm : Nat} {S : rs_Shp} {v0 : Nat} {x1 : Int32} {v2 : Nat} {σ : rs_Mem} {Q : Int32 → rs_Mem → Prop} (h_v0 : rs_Ok S 1 v0) (h_v2 : rs_Ok S 22 v2) (hF : F_La_take S.2.2 v0 x1 v2 σ Q) :
    Met l y_La_take (rs_wsW y_La_take method_12_code 4 (some .int) hs_La_take) { frames := 7, cells := 1, slots := 6, locals := 132 } (rs_PT G Bm S σ [.ref (Bm + v0), .int x1, .ref (Bm + v2)]) (rs_Qi G Bm S Q) 1 6 (rs_A Bm) := by
  refine rs_metW (own := "RouteSpeakerLaw") (by decide) rfl (Nat.le_of_ble_eq_true rfl) (fun p e s m below meth c ls C hX hh hl hH hT hS => ?_)
  replace hl : lv_has ls 4 [(0, .ref (Bm + v0)), (1, .int x1), (2, .ref (Bm + v2))] := hl
  have hx := C.1
  have hb := C.2.1
  unfold F_La_take at hF
  refine lv_aload_n hx hb d_La_take_0 rfl (lv_at hl 2 rfl) ?_
  refine lv_iconst hx hb d_La_take_1 ki_0 ?_
  refine lv_aload_n hx hb d_La_take_2 rfl (lv_at hl 0 rfl) ?_
  refine lv_iload_n hx hb d_La_take_3 rfl (lv_at hl 1 rfl) ?_
  refine rs_cTi (rs_runVT C hX hH hT hS hl (J_Sp_take l hfl h_v0 hF) rc_Sp_take tw_830 tw_831 tw_832 h_v0 ⟨rfl, by decide, by decide⟩ rfl ⟨⟨rfl, rfl⟩, ⟨by decide, by decide⟩, by decide, by decide⟩ (Nat.le_of_ble_eq_true rfl) rfl d_La_take_4) hS (fun x54 σ51 H locs hH hT hS hF => ?_) (fun x52 k53 σ51 ce H locs hH hT hS hF hce => ?_)
  · refine lv_i2l hx hb d_La_take_7 rfl ?_
    obtain ⟨g55, hF⟩ := hF
    refine rs_last C hH hT hS h_v2 g55 d_La_take_8 (fun σ56 H locs eσ56 hH hT hS => ?_)
    replace hF := hF σ56 eσ56
    refine lv_goto hx hb d_La_take_9 (tgt := 18) rfl ?_
    refine lv_iconst hx hb d_La_take_18 ki_0 ?_
    exact rs_iret C hH hT hS hF d_La_take_19
  · rcases hF with hF | hF
    · obtain ⟨hk, hF⟩ := hF
      subst hk
      refine rs_k1 (k := 1) C hX hh (by decide) (by decide) tw_527 cw_1 hce ?_
      refine lv_astore_n hx hb d_La_take_12 rfl hl (by decide) (lv' := [(3, .ref x52), (0, .ref (Bm + v0)), (1, .int x1), (2, .ref (Bm + v2))]) rfl (fun ls hl => ?_)
      refine lv_iconst hx hb d_La_take_13 ki_1 ?_
      exact rs_iret C hH hT hS hF d_La_take_14
    · obtain ⟨hk, hF⟩ := hF
      subst hk
      refine rs_k2 (k := 3) (k0 := 1) C hX hh (by decide) (by decide) tw_527 tw_829 cw_3 nc_3_1 hce ?_
      refine lv_astore_n hx hb d_La_take_15 rfl hl (by decide) (lv' := [(3, .ref x52), (0, .ref (Bm + v0)), (1, .int x1), (2, .ref (Bm + v2))]) rfl (fun ls hl => ?_)
      refine lv_iconst hx hb d_La_take_16 ki_2 ?_
      exact rs_iret C hH hT hS hF d_La_take_17
/-! RouteSpeakerLaw.best(LRouteSpeaker;III[J)I -/
theorem d_La_best_0 : decode method_13_code 0 = .ok (.aload 4, 2) := by decide +kernel
theorem d_La_best_2 : decode method_13_code 2 = .ok (.iconst 0, 1) := by decide +kernel
theorem d_La_best_3 : decode method_13_code 3 = .ok (.aload_n 0, 1) := by decide +kernel
theorem d_La_best_4 : decode method_13_code 4 = .ok (.iload_n 1, 1) := by decide +kernel
theorem d_La_best_5 : decode method_13_code 5 = .ok (.iload_n 2, 1) := by decide +kernel
theorem d_La_best_6 : decode method_13_code 6 = .ok (.iload_n 3, 1) := by decide +kernel
theorem d_La_best_7 : decode method_13_code 7 = .ok (.invokevirtual 52, 3) := by decide +kernel
theorem d_La_best_10 : decode method_13_code 10 = .ok (.i2l, 1) := by decide +kernel
theorem d_La_best_11 : decode method_13_code 11 = .ok (.lastore, 1) := by decide +kernel
theorem d_La_best_12 : decode method_13_code 12 = .ok (.goto (11), 3) := by decide +kernel
theorem d_La_best_15 : decode method_13_code 15 = .ok (.astore 5, 2) := by decide +kernel
theorem d_La_best_17 : decode method_13_code 17 = .ok (.iconst 1, 1) := by decide +kernel
theorem d_La_best_18 : decode method_13_code 18 = .ok (.ireturn, 1) := by decide +kernel
theorem d_La_best_19 : decode method_13_code 19 = .ok (.astore 5, 2) := by decide +kernel
theorem d_La_best_21 : decode method_13_code 21 = .ok (.iconst 2, 1) := by decide +kernel
theorem d_La_best_22 : decode method_13_code 22 = .ok (.ireturn, 1) := by decide +kernel
theorem d_La_best_23 : decode method_13_code 23 = .ok (.iconst 0, 1) := by decide +kernel
theorem d_La_best_24 : decode method_13_code 24 = .ok (.ireturn, 1) := by decide +kernel
def F_La_best (N : Nat → Nat) (v0 : Nat) (x1 : Int32) (x2 : Int32) (x3 : Int32) (v4 : Nat) (σ : rs_Mem) (Q : Int32 → rs_Mem → Prop) : Prop :=
  (F_Sp_best N v0 x1 x2 x3 σ (fun x54 σ51 => (vp_in (0 : Int32) (N v4) ∧ ∀ σ56 : rs_Mem, σ56 = rs_sL σ51 v4 (0 : Int32).toNatClampNeg (x54.toInt64) → (Q (0 : Int32) σ56))) (fun k53 σ51 => ((k53 = 1 ∧ (Q (1 : Int32) σ51)) ∨ (k53 = 3 ∧ (Q (2 : Int32) σ51)))))
abbrev y_La_best : MethodName := ({ cls := "RouteSpeakerLaw", name := "best", desc := "(LRouteSpeaker;III[J)I" } : Jvm.MethodName)
abbrev hs_La_best : List (Nat × Nat × Nat × Nat) := [(0, 12, 15, 13), (0, 12, 19, 50)]
set_option maxRecDepth 20000 in
theorem J_La_best (l : Launch) (hfl : l.flags = flags0) {G : rs_G} {Bm : Nat} {S : rs_Shp} {v0 : Nat} {x1 : Int32} {x2 : Int32} {x3 : Int32} {v4 : Nat} {σ : rs_Mem} {Q : Int32 → rs_Mem → Prop} (h_v0 : rs_Ok S 1 v0) (h_v4 : rs_Ok S 22 v4) (hF : F_La_best S.2.2 v0 x1 x2 x3 v4 σ Q) :
    Met l y_La_best (rs_wsW y_La_best method_13_code 6 (some .int) hs_La_best) { frames := 7, cells := 1, slots := 6, locals := 135 } (rs_PT G Bm S σ [.ref (Bm + v0), .int x1, .int x2, .int x3, .ref (Bm + v4)]) (rs_Qi G Bm S Q) 1 6 (rs_A Bm) := by
  refine rs_metW (own := "RouteSpeakerLaw") (by decide) rfl (Nat.le_of_ble_eq_true rfl) (fun p e s m below meth c ls C hX hh hl hH hT hS => ?_)
  replace hl : lv_has ls 6 [(0, .ref (Bm + v0)), (1, .int x1), (2, .int x2), (3, .int x3), (4, .ref (Bm + v4))] := hl
  have hx := C.1
  have hb := C.2.1
  unfold F_La_best at hF
  refine lv_aload hx hb d_La_best_0 (lv_at hl 4 rfl) ?_
  refine lv_iconst hx hb d_La_best_2 ki_0 ?_
  refine lv_aload_n hx hb d_La_best_3 rfl (lv_at hl 0 rfl) ?_
  refine lv_iload_n hx hb d_La_best_4 rfl (lv_at hl 1 rfl) ?_
  refine lv_iload_n hx hb d_La_best_5 rfl (lv_at hl 2 rfl) ?_
  refine lv_iload_n hx hb d_La_best_6 rfl (lv_at hl 3 rfl) ?_
  refine rs_cTi (rs_runVT C hX hH hT hS hl (J_Sp_best l hfl h_v0 hF) rc_Sp_best tw_856 tw_857 tw_858 h_v0 ⟨rfl, by decide, by decide⟩ rfl ⟨⟨rfl, rfl⟩, ⟨by decide, by decide⟩, by decide, by decide⟩ (Nat.le_of_ble_eq_true rfl) rfl d_La_best_7) hS (fun x54 σ51 H locs hH hT hS hF => ?_) (fun x52 k53 σ51 ce H locs hH hT hS hF hce => ?_)
  · refine lv_i2l hx hb d_La_best_10 rfl ?_
    obtain ⟨g55, hF⟩ := hF
    refine rs_last C hH hT hS h_v4 g55 d_La_best_11 (fun σ56 H locs eσ56 hH hT hS => ?_)
    replace hF := hF σ56 eσ56
    refine lv_goto hx hb d_La_best_12 (tgt := 23) rfl ?_
    refine lv_iconst hx hb d_La_best_23 ki_0 ?_
    exact rs_iret C hH hT hS hF d_La_best_24
  · rcases hF with hF | hF
    · obtain ⟨hk, hF⟩ := hF
      subst hk
      refine rs_k1 (k := 1) C hX hh (by decide) (by decide) tw_527 cw_1 hce ?_
      refine lv_astore hx hb d_La_best_15 hl (by decide) (lv' := [(5, .ref x52), (0, .ref (Bm + v0)), (1, .int x1), (2, .int x2), (3, .int x3), (4, .ref (Bm + v4))]) rfl (fun ls hl => ?_)
      refine lv_iconst hx hb d_La_best_17 ki_1 ?_
      exact rs_iret C hH hT hS hF d_La_best_18
    · obtain ⟨hk, hF⟩ := hF
      subst hk
      refine rs_k2 (k := 3) (k0 := 1) C hX hh (by decide) (by decide) tw_527 tw_829 cw_3 nc_3_1 hce ?_
      refine lv_astore hx hb d_La_best_19 hl (by decide) (lv' := [(5, .ref x52), (0, .ref (Bm + v0)), (1, .int x1), (2, .int x2), (3, .int x3), (4, .ref (Bm + v4))]) rfl (fun ls hl => ?_)
      refine lv_iconst hx hb d_La_best_21 ki_2 ?_
      exact rs_iret C hH hT hS hF d_La_best_22
/-! RouteSpeakerLaw.flaw(LRouteSpeaker;III[J)I -/
theorem d_La_flaw_0 : decode method_14_code 0 = .ok (.aload 4, 2) := by decide +kernel
theorem d_La_flaw_2 : decode method_14_code 2 = .ok (.iconst 0, 1) := by decide +kernel
theorem d_La_flaw_3 : decode method_14_code 3 = .ok (.aload_n 0, 1) := by decide +kernel
theorem d_La_flaw_4 : decode method_14_code 4 = .ok (.iload_n 1, 1) := by decide +kernel
theorem d_La_flaw_5 : decode method_14_code 5 = .ok (.iload_n 2, 1) := by decide +kernel
theorem d_La_flaw_6 : decode method_14_code 6 = .ok (.iload_n 3, 1) := by decide +kernel
theorem d_La_flaw_7 : decode method_14_code 7 = .ok (.invokevirtual 56, 3) := by decide +kernel
theorem d_La_flaw_10 : decode method_14_code 10 = .ok (.i2l, 1) := by decide +kernel
theorem d_La_flaw_11 : decode method_14_code 11 = .ok (.lastore, 1) := by decide +kernel
theorem d_La_flaw_12 : decode method_14_code 12 = .ok (.goto (11), 3) := by decide +kernel
theorem d_La_flaw_15 : decode method_14_code 15 = .ok (.astore 5, 2) := by decide +kernel
theorem d_La_flaw_17 : decode method_14_code 17 = .ok (.iconst 1, 1) := by decide +kernel
theorem d_La_flaw_18 : decode method_14_code 18 = .ok (.ireturn, 1) := by decide +kernel
theorem d_La_flaw_19 : decode method_14_code 19 = .ok (.astore 5, 2) := by decide +kernel
theorem d_La_flaw_21 : decode method_14_code 21 = .ok (.iconst 2, 1) := by decide +kernel
theorem d_La_flaw_22 : decode method_14_code 22 = .ok (.ireturn, 1) := by decide +kernel
theorem d_La_flaw_23 : decode method_14_code 23 = .ok (.iconst 0, 1) := by decide +kernel
theorem d_La_flaw_24 : decode method_14_code 24 = .ok (.ireturn, 1) := by decide +kernel
def F_La_flaw (N : Nat → Nat) (v0 : Nat) (x1 : Int32) (x2 : Int32) (x3 : Int32) (v4 : Nat) (σ : rs_Mem) (Q : Int32 → rs_Mem → Prop) : Prop :=
  (F_Sp_flaw N v0 x1 x2 x3 σ (fun x54 σ51 => (vp_in (0 : Int32) (N v4) ∧ ∀ σ56 : rs_Mem, σ56 = rs_sL σ51 v4 (0 : Int32).toNatClampNeg (x54.toInt64) → (Q (0 : Int32) σ56))) (fun k53 σ51 => ((k53 = 1 ∧ (Q (1 : Int32) σ51)) ∨ (k53 = 3 ∧ (Q (2 : Int32) σ51)))))
abbrev y_La_flaw : MethodName := ({ cls := "RouteSpeakerLaw", name := "flaw", desc := "(LRouteSpeaker;III[J)I" } : Jvm.MethodName)
abbrev hs_La_flaw : List (Nat × Nat × Nat × Nat) := [(0, 12, 15, 13), (0, 12, 19, 50)]
set_option maxRecDepth 20000 in
theorem J_La_flaw (l : Launch) (hfl : l.flags = flags0) {G : rs_G} {Bm : Nat} {S : rs_Shp} {v0 : Nat} {x1 : Int32} {x2 : Int32} {x3 : Int32} {v4 : Nat} {σ : rs_Mem} {Q : Int32 → rs_Mem → Prop} (h_v0 : rs_Ok S 1 v0) (h_v4 : rs_Ok S 22 v4) (hF : F_La_flaw S.2.2 v0 x1 x2 x3 v4 σ Q) :
    Met l y_La_flaw (rs_wsW y_La_flaw method_14_code 6 (some .int) hs_La_flaw) { frames := 7, cells := 1, slots := 6, locals := 134 } (rs_PT G Bm S σ [.ref (Bm + v0), .int x1, .int x2, .int x3, .ref (Bm + v4)]) (rs_Qi G Bm S Q) 1 6 (rs_A Bm) := by
  refine rs_metW (own := "RouteSpeakerLaw") (by decide) rfl (Nat.le_of_ble_eq_true rfl) (fun p e s m below meth c ls C hX hh hl hH hT hS => ?_)
  replace hl : lv_has ls 6 [(0, .ref (Bm + v0)), (1, .int x1), (2, .int x2), (3, .int x3), (4, .ref (Bm + v4))] := hl
  have hx := C.1
  have hb := C.2.1
  unfold F_La_flaw at hF
  refine lv_aload hx hb d_La_flaw_0 (lv_at hl 4 rfl) ?_
  refine lv_iconst hx hb d_La_flaw_2 ki_0 ?_
  refine lv_aload_n hx hb d_La_flaw_3 rfl (lv_at hl 0 rfl) ?_
  refine lv_iload_n hx hb d_La_flaw_4 rfl (lv_at hl 1 rfl) ?_
  refine lv_iload_n hx hb d_La_flaw_5 rfl (lv_at hl 2 rfl) ?_
  refine lv_iload_n hx hb d_La_flaw_6 rfl (lv_at hl 3 rfl) ?_
  refine rs_cTi (rs_runVT C hX hH hT hS hl (J_Sp_flaw l hfl h_v0 hF) rc_Sp_flaw tw_870 tw_871 tw_872 h_v0 ⟨rfl, by decide, by decide⟩ rfl ⟨⟨rfl, rfl⟩, ⟨by decide, by decide⟩, by decide, by decide⟩ (Nat.le_of_ble_eq_true rfl) rfl d_La_flaw_7) hS (fun x54 σ51 H locs hH hT hS hF => ?_) (fun x52 k53 σ51 ce H locs hH hT hS hF hce => ?_)
  · refine lv_i2l hx hb d_La_flaw_10 rfl ?_
    obtain ⟨g55, hF⟩ := hF
    refine rs_last C hH hT hS h_v4 g55 d_La_flaw_11 (fun σ56 H locs eσ56 hH hT hS => ?_)
    replace hF := hF σ56 eσ56
    refine lv_goto hx hb d_La_flaw_12 (tgt := 23) rfl ?_
    refine lv_iconst hx hb d_La_flaw_23 ki_0 ?_
    exact rs_iret C hH hT hS hF d_La_flaw_24
  · rcases hF with hF | hF
    · obtain ⟨hk, hF⟩ := hF
      subst hk
      refine rs_k1 (k := 1) C hX hh (by decide) (by decide) tw_527 cw_1 hce ?_
      refine lv_astore hx hb d_La_flaw_15 hl (by decide) (lv' := [(5, .ref x52), (0, .ref (Bm + v0)), (1, .int x1), (2, .int x2), (3, .int x3), (4, .ref (Bm + v4))]) rfl (fun ls hl => ?_)
      refine lv_iconst hx hb d_La_flaw_17 ki_1 ?_
      exact rs_iret C hH hT hS hF d_La_flaw_18
    · obtain ⟨hk, hF⟩ := hF
      subst hk
      refine rs_k2 (k := 3) (k0 := 1) C hX hh (by decide) (by decide) tw_527 tw_829 cw_3 nc_3_1 hce ?_
      refine lv_astore hx hb d_La_flaw_19 hl (by decide) (lv' := [(5, .ref x52), (0, .ref (Bm + v0)), (1, .int x1), (2, .int x2), (3, .int x3), (4, .ref (Bm + v4))]) rfl (fun ls hl => ?_)
      refine lv_iconst hx hb d_La_flaw_21 ki_2 ?_
      exact rs_iret C hH hT hS hF d_La_flaw_22
/-! RouteSpeakerLaw.penalty(LRouteSpeaker;III[D)I -/
theorem d_La_penalty_0 : decode method_15_code 0 = .ok (.aload 4, 2) := by decide +kernel
theorem d_La_penalty_2 : decode method_15_code 2 = .ok (.iconst 0, 1) := by decide +kernel
theorem d_La_penalty_3 : decode method_15_code 3 = .ok (.aload_n 0, 1) := by decide +kernel
theorem d_La_penalty_4 : decode method_15_code 4 = .ok (.iload_n 1, 1) := by decide +kernel
theorem d_La_penalty_5 : decode method_15_code 5 = .ok (.iload_n 2, 1) := by decide +kernel
theorem d_La_penalty_6 : decode method_15_code 6 = .ok (.iload_n 3, 1) := by decide +kernel
theorem d_La_penalty_7 : decode method_15_code 7 = .ok (.invokevirtual 59, 3) := by decide +kernel
theorem d_La_penalty_10 : decode method_15_code 10 = .ok (.dastore, 1) := by decide +kernel
theorem d_La_penalty_11 : decode method_15_code 11 = .ok (.goto (7), 3) := by decide +kernel
theorem d_La_penalty_14 : decode method_15_code 14 = .ok (.astore 5, 2) := by decide +kernel
theorem d_La_penalty_16 : decode method_15_code 16 = .ok (.iconst 1, 1) := by decide +kernel
theorem d_La_penalty_17 : decode method_15_code 17 = .ok (.ireturn, 1) := by decide +kernel
theorem d_La_penalty_18 : decode method_15_code 18 = .ok (.iconst 0, 1) := by decide +kernel
theorem d_La_penalty_19 : decode method_15_code 19 = .ok (.ireturn, 1) := by decide +kernel
def F_La_penalty (N : Nat → Nat) (v0 : Nat) (x1 : Int32) (x2 : Int32) (x3 : Int32) (v4 : Nat) (σ : rs_Mem) (Q : Int32 → rs_Mem → Prop) : Prop :=
  (F_Sp_penalty N v0 x1 x2 x3 σ (fun x54 σ51 => (vp_in (0 : Int32) (N v4) ∧ ∀ σ56 : rs_Mem, σ56 = rs_sD σ51 v4 (0 : Int32).toNatClampNeg x54 → (Q (0 : Int32) σ56))) (fun k53 σ51 => ((k53 = 1 ∧ (Q (1 : Int32) σ51)))))
abbrev y_La_penalty : MethodName := ({ cls := "RouteSpeakerLaw", name := "penalty", desc := "(LRouteSpeaker;III[D)I" } : Jvm.MethodName)
abbrev hs_La_penalty : List (Nat × Nat × Nat × Nat) := [(0, 11, 14, 13)]
set_option maxRecDepth 20000 in
theorem J_La_penalty (l : Launch) (hfl : l.flags = flags0) {G : rs_G} {Bm : Nat} {S : rs_Shp} {v0 : Nat} {x1 : Int32} {x2 : Int32} {x3 : Int32} {v4 : Nat} {σ : rs_Mem} {Q : Int32 → rs_Mem → Prop} (h_v0 : rs_Ok S 1 v0) (h_v4 : rs_Ok S 23 v4) (hF : F_La_penalty S.2.2 v0 x1 x2 x3 v4 σ Q) :
    Met l y_La_penalty (rs_wsW y_La_penalty method_15_code 6 (some .int) hs_La_penalty) { frames := 7, cells := 1, slots := 6, locals := 133 } (rs_PT G Bm S σ [.ref (Bm + v0), .int x1, .int x2, .int x3, .ref (Bm + v4)]) (rs_Qi G Bm S Q) 1 6 (rs_A Bm) := by
  refine rs_metW (own := "RouteSpeakerLaw") (by decide) rfl (Nat.le_of_ble_eq_true rfl) (fun p e s m below meth c ls C hX hh hl hH hT hS => ?_)
  replace hl : lv_has ls 6 [(0, .ref (Bm + v0)), (1, .int x1), (2, .int x2), (3, .int x3), (4, .ref (Bm + v4))] := hl
  have hx := C.1
  have hb := C.2.1
  unfold F_La_penalty at hF
  refine lv_aload hx hb d_La_penalty_0 (lv_at hl 4 rfl) ?_
  refine lv_iconst hx hb d_La_penalty_2 ki_0 ?_
  refine lv_aload_n hx hb d_La_penalty_3 rfl (lv_at hl 0 rfl) ?_
  refine lv_iload_n hx hb d_La_penalty_4 rfl (lv_at hl 1 rfl) ?_
  refine lv_iload_n hx hb d_La_penalty_5 rfl (lv_at hl 2 rfl) ?_
  refine lv_iload_n hx hb d_La_penalty_6 rfl (lv_at hl 3 rfl) ?_
  refine rs_cTd (rs_runVT C hX hH hT hS hl (J_Sp_penalty l hfl h_v0 hF) rc_Sp_penalty tw_877 tw_878 tw_879 h_v0 ⟨rfl, by decide, by decide⟩ rfl ⟨⟨rfl, rfl⟩, ⟨by decide, by decide⟩, by decide, by decide⟩ (Nat.le_of_ble_eq_true rfl) rfl d_La_penalty_7) hS (fun x54 σ51 H locs hH hT hS hF => ?_) (fun x52 k53 σ51 ce H locs hH hT hS hF hce => ?_)
  · obtain ⟨g55, hF⟩ := hF
    refine rs_dast C hH hT hS h_v4 g55 d_La_penalty_10 (fun σ56 H locs eσ56 hH hT hS => ?_)
    replace hF := hF σ56 eσ56
    refine lv_goto hx hb d_La_penalty_11 (tgt := 18) rfl ?_
    refine lv_iconst hx hb d_La_penalty_18 ki_0 ?_
    exact rs_iret C hH hT hS hF d_La_penalty_19
  · obtain ⟨hk, hF⟩ := hF
    subst hk
    refine rs_k1 (k := 1) C hX hh (by decide) (by decide) tw_527 cw_1 hce ?_
    refine lv_astore hx hb d_La_penalty_14 hl (by decide) (lv' := [(5, .ref x52), (0, .ref (Bm + v0)), (1, .int x1), (2, .int x2), (3, .int x3), (4, .ref (Bm + v4))]) rfl (fun ls hl => ?_)
    refine lv_iconst hx hb d_La_penalty_16 ki_1 ?_
    exact rs_iret C hH hT hS hF d_La_penalty_17
/-! RouteSpeakerLaw.forward(LRouteSpeaker;I[J)I -/
theorem d_La_forward_0 : decode method_16_code 0 = .ok (.aload_n 2, 1) := by decide +kernel
theorem d_La_forward_1 : decode method_16_code 1 = .ok (.iconst 0, 1) := by decide +kernel
theorem d_La_forward_2 : decode method_16_code 2 = .ok (.aload_n 0, 1) := by decide +kernel
theorem d_La_forward_3 : decode method_16_code 3 = .ok (.iload_n 1, 1) := by decide +kernel
theorem d_La_forward_4 : decode method_16_code 4 = .ok (.invokevirtual 63, 3) := by decide +kernel
theorem d_La_forward_7 : decode method_16_code 7 = .ok (.i2l, 1) := by decide +kernel
theorem d_La_forward_8 : decode method_16_code 8 = .ok (.lastore, 1) := by decide +kernel
theorem d_La_forward_9 : decode method_16_code 9 = .ok (.goto (9), 3) := by decide +kernel
theorem d_La_forward_12 : decode method_16_code 12 = .ok (.astore_n 3, 1) := by decide +kernel
theorem d_La_forward_13 : decode method_16_code 13 = .ok (.iconst 1, 1) := by decide +kernel
theorem d_La_forward_14 : decode method_16_code 14 = .ok (.ireturn, 1) := by decide +kernel
theorem d_La_forward_15 : decode method_16_code 15 = .ok (.astore_n 3, 1) := by decide +kernel
theorem d_La_forward_16 : decode method_16_code 16 = .ok (.iconst 2, 1) := by decide +kernel
theorem d_La_forward_17 : decode method_16_code 17 = .ok (.ireturn, 1) := by decide +kernel
theorem d_La_forward_18 : decode method_16_code 18 = .ok (.iconst 0, 1) := by decide +kernel
theorem d_La_forward_19 : decode method_16_code 19 = .ok (.ireturn, 1) := by decide +kernel
def F_La_forward (N : Nat → Nat) (v0 : Nat) (x1 : Int32) (v2 : Nat) (σ : rs_Mem) (Q : Int32 → rs_Mem → Prop) : Prop :=
  (F_Sp_forward N v0 x1 σ (fun x54 σ51 => (vp_in (0 : Int32) (N v2) ∧ ∀ σ56 : rs_Mem, σ56 = rs_sL σ51 v2 (0 : Int32).toNatClampNeg (x54.toInt64) → (Q (0 : Int32) σ56))) (fun k53 σ51 => ((k53 = 1 ∧ (Q (1 : Int32) σ51)) ∨ (k53 = 3 ∧ (Q (2 : Int32) σ51)))))
abbrev y_La_forward : MethodName := ({ cls := "RouteSpeakerLaw", name := "forward", desc := "(LRouteSpeaker;I[J)I" } : Jvm.MethodName)
abbrev hs_La_forward : List (Nat × Nat × Nat × Nat) := [(0, 9, 12, 13), (0, 9, 15, 50)]
set_option maxRecDepth 20000 in
theorem J_La_forward (l : Launch) (hfl : l.flags = flags0) {G : rs_G} {Bm : Nat} {S : rs_Shp} {v0 : Nat} {x1 : Int32} {v2 : Nat} {σ : rs_Mem} {Q : Int32 → rs_Mem → Prop} (h_v0 : rs_Ok S 1 v0) (h_v2 : rs_Ok S 22 v2) (hF : F_La_forward S.2.2 v0 x1 v2 σ Q) :
    Met l y_La_forward (rs_wsW y_La_forward method_16_code 4 (some .int) hs_La_forward) { frames := 7, cells := 1, slots := 6, locals := 136 } (rs_PT G Bm S σ [.ref (Bm + v0), .int x1, .ref (Bm + v2)]) (rs_Qi G Bm S Q) 1 6 (rs_A Bm) := by
  refine rs_metW (own := "RouteSpeakerLaw") (by decide) rfl (Nat.le_of_ble_eq_true rfl) (fun p e s m below meth c ls C hX hh hl hH hT hS => ?_)
  replace hl : lv_has ls 4 [(0, .ref (Bm + v0)), (1, .int x1), (2, .ref (Bm + v2))] := hl
  have hx := C.1
  have hb := C.2.1
  unfold F_La_forward at hF
  refine lv_aload_n hx hb d_La_forward_0 rfl (lv_at hl 2 rfl) ?_
  refine lv_iconst hx hb d_La_forward_1 ki_0 ?_
  refine lv_aload_n hx hb d_La_forward_2 rfl (lv_at hl 0 rfl) ?_
  refine lv_iload_n hx hb d_La_forward_3 rfl (lv_at hl 1 rfl) ?_
  refine rs_cTi (rs_runVT C hX hH hT hS hl (J_Sp_forward l hfl h_v0 hF) rc_Sp_forward tw_888 tw_889 tw_890 h_v0 ⟨rfl, by decide, by decide⟩ rfl ⟨⟨rfl, rfl⟩, ⟨by decide, by decide⟩, by decide, by decide⟩ (Nat.le_of_ble_eq_true rfl) rfl d_La_forward_4) hS (fun x54 σ51 H locs hH hT hS hF => ?_) (fun x52 k53 σ51 ce H locs hH hT hS hF hce => ?_)
  · refine lv_i2l hx hb d_La_forward_7 rfl ?_
    obtain ⟨g55, hF⟩ := hF
    refine rs_last C hH hT hS h_v2 g55 d_La_forward_8 (fun σ56 H locs eσ56 hH hT hS => ?_)
    replace hF := hF σ56 eσ56
    refine lv_goto hx hb d_La_forward_9 (tgt := 18) rfl ?_
    refine lv_iconst hx hb d_La_forward_18 ki_0 ?_
    exact rs_iret C hH hT hS hF d_La_forward_19
  · rcases hF with hF | hF
    · obtain ⟨hk, hF⟩ := hF
      subst hk
      refine rs_k1 (k := 1) C hX hh (by decide) (by decide) tw_527 cw_1 hce ?_
      refine lv_astore_n hx hb d_La_forward_12 rfl hl (by decide) (lv' := [(3, .ref x52), (0, .ref (Bm + v0)), (1, .int x1), (2, .ref (Bm + v2))]) rfl (fun ls hl => ?_)
      refine lv_iconst hx hb d_La_forward_13 ki_1 ?_
      exact rs_iret C hH hT hS hF d_La_forward_14
    · obtain ⟨hk, hF⟩ := hF
      subst hk
      refine rs_k2 (k := 3) (k0 := 1) C hX hh (by decide) (by decide) tw_527 tw_829 cw_3 nc_3_1 hce ?_
      refine lv_astore_n hx hb d_La_forward_15 rfl hl (by decide) (lv' := [(3, .ref x52), (0, .ref (Bm + v0)), (1, .int x1), (2, .ref (Bm + v2))]) rfl (fun ls hl => ?_)
      refine lv_iconst hx hb d_La_forward_16 ki_2 ?_
      exact rs_iret C hH hT hS hF d_La_forward_17
