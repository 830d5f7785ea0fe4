/-! RouteSpeaker$Peer.close()V -/
theorem d_Pe_close_0 : decode prog_6_method_15_code 0 = .ok (.aload_n 0, 1) := by decide +kernel
theorem d_Pe_close_1 : decode prog_6_method_15_code 1 = .ok (.iconst 0, 1) := by decide +kernel
theorem d_Pe_close_2 : decode prog_6_method_15_code 2 = .ok (.putfield 51, 3) := by decide +kernel
theorem d_Pe_close_5 : decode prog_6_method_15_code 5 = .ok (.aload_n 0, 1) := by decide +kernel
theorem d_Pe_close_6 : decode prog_6_method_15_code 6 = .ok (.iconst 0, 1) := by decide +kernel
theorem d_Pe_close_7 : decode prog_6_method_15_code 7 = .ok (.putfield 61, 3) := by decide +kernel
theorem d_Pe_close_10 : decode prog_6_method_15_code 10 = .ok (.aload_n 0, 1) := by decide +kernel
theorem d_Pe_close_11 : decode prog_6_method_15_code 11 = .ok (.iconst 0, 1) := by decide +kernel
theorem d_Pe_close_12 : decode prog_6_method_15_code 12 = .ok (.putfield 96, 3) := by decide +kernel
theorem d_Pe_close_15 : decode prog_6_method_15_code 15 = .ok (.aload_n 0, 1) := by decide +kernel
theorem d_Pe_close_16 : decode prog_6_method_15_code 16 = .ok (.iconst 0, 1) := by decide +kernel
theorem d_Pe_close_17 : decode prog_6_method_15_code 17 = .ok (.putfield 93, 3) := by decide +kernel
theorem d_Pe_close_20 : decode prog_6_method_15_code 20 = .ok (.aload_n 0, 1) := by decide +kernel
theorem d_Pe_close_21 : decode prog_6_method_15_code 21 = .ok (.iconst 0, 1) := by decide +kernel
theorem d_Pe_close_22 : decode prog_6_method_15_code 22 = .ok (.putfield 120, 3) := by decide +kernel
theorem d_Pe_close_25 : decode prog_6_method_15_code 25 = .ok (.aload_n 0, 1) := by decide +kernel
theorem d_Pe_close_26 : decode prog_6_method_15_code 26 = .ok (.iconst 0, 1) := by decide +kernel
theorem d_Pe_close_27 : decode prog_6_method_15_code 27 = .ok (.putfield 71, 3) := by decide +kernel
theorem d_Pe_close_30 : decode prog_6_method_15_code 30 = .ok (.iconst 0, 1) := by decide +kernel
theorem d_Pe_close_31 : decode prog_6_method_15_code 31 = .ok (.istore_n 1, 1) := by decide +kernel
theorem d_Pe_close_32 : decode prog_6_method_15_code 32 = .ok (.iload_n 1, 1) := by decide +kernel
theorem d_Pe_close_33 : decode prog_6_method_15_code 33 = .ok (.bipush (12), 2) := by decide +kernel
theorem d_Pe_close_35 : decode prog_6_method_15_code 35 = .ok (.if_icmp .ge (28), 3) := by decide +kernel
theorem d_Pe_close_38 : decode prog_6_method_15_code 38 = .ok (.aload_n 0, 1) := by decide +kernel
theorem d_Pe_close_39 : decode prog_6_method_15_code 39 = .ok (.getfield 39, 3) := by decide +kernel
theorem d_Pe_close_42 : decode prog_6_method_15_code 42 = .ok (.getfield 123, 3) := by decide +kernel
theorem d_Pe_close_45 : decode prog_6_method_15_code 45 = .ok (.iload_n 1, 1) := by decide +kernel
theorem d_Pe_close_46 : decode prog_6_method_15_code 46 = .ok (.iconst 0, 1) := by decide +kernel
theorem d_Pe_close_47 : decode prog_6_method_15_code 47 = .ok (.bastore, 1) := by decide +kernel
theorem d_Pe_close_48 : decode prog_6_method_15_code 48 = .ok (.aload_n 0, 1) := by decide +kernel
theorem d_Pe_close_49 : decode prog_6_method_15_code 49 = .ok (.getfield 45, 3) := by decide +kernel
theorem d_Pe_close_52 : decode prog_6_method_15_code 52 = .ok (.iload_n 1, 1) := by decide +kernel
theorem d_Pe_close_53 : decode prog_6_method_15_code 53 = .ok (.aaload, 1) := by decide +kernel
theorem d_Pe_close_54 : decode prog_6_method_15_code 54 = .ok (.iconst 0, 1) := by decide +kernel
theorem d_Pe_close_55 : decode prog_6_method_15_code 55 = .ok (.iconst 0, 1) := by decide +kernel
theorem d_Pe_close_56 : decode prog_6_method_15_code 56 = .ok (.iastore, 1) := by decide +kernel
theorem d_Pe_close_57 : decode prog_6_method_15_code 57 = .ok (.iinc 1 (1), 3) := by decide +kernel
theorem d_Pe_close_60 : decode prog_6_method_15_code 60 = .ok (.goto (-28), 3) := by decide +kernel
theorem d_Pe_close_63 : decode prog_6_method_15_code 63 = .ok (.return_, 1) := by decide +kernel
def G_Pe_close_32 (N : Nat → Nat) (Q : rs_Mem → Prop) (K32 : Nat → Int32 → rs_Mem → Prop) (v0 : Nat) (x1 : Int32) (σ : rs_Mem) : Prop :=
  (((12 : Int32) ≤ x1 → (Q σ)) ∧ (¬ ((12 : Int32) ≤ x1) → (vp_in x1 (N (rs_R σ (rs_R σ v0 15) 2)) ∧ ∀ σ54 : rs_Mem, σ54 = rs_sI σ (rs_R σ (rs_R σ v0 15) 2) x1.toNatClampNeg (0 : Int32) → (vp_in x1 (N (rs_R σ54 v0 16)) ∧ (vp_in (0 : Int32) (N (rs_R σ54 (rs_R σ54 v0 16) x1.toNatClampNeg)) ∧ ∀ σ59 : rs_Mem, σ59 = rs_sI σ54 (rs_R σ54 (rs_R σ54 v0 16) x1.toNatClampNeg) (0 : Int32).toNatClampNeg (0 : Int32) → (∀ x60 : Int32, x60 = x1 + (1 : Int32) → (K32 v0 x60 σ59)))))))
noncomputable def L_Pe_close_32 (N : Nat → Nat) (Q : rs_Mem → Prop) (n : Nat) : Nat → Int32 → rs_Mem → Prop := Nat.rec (motive := fun _ => Nat → Int32 → rs_Mem → Prop) (fun _ _ _ => False) (fun _ K => G_Pe_close_32 N Q K) n
def F_Pe_close (N : Nat → Nat) (v0 : Nat) (σ : rs_Mem) (Q : rs_Mem → Prop) : Prop :=
  (∀ σ51 : rs_Mem, σ51 = rs_sI σ v0 6 (0 : Int32) → (∀ σ52 : rs_Mem, σ52 = rs_sI σ51 v0 7 (0 : Int32) → (∀ σ53 : rs_Mem, σ53 = rs_sI σ52 v0 8 (0 : Int32) → (∀ σ54 : rs_Mem, σ54 = rs_sI σ53 v0 9 (0 : Int32) → (∀ σ55 : rs_Mem, σ55 = rs_sI σ54 v0 10 (0 : Int32) → (∀ σ56 : rs_Mem, σ56 = rs_sI σ55 v0 11 (0 : Int32) → (∃ n : Nat, L_Pe_close_32 N Q n v0 (0 : Int32) σ56)))))))
set_option maxRecDepth 20000 in
theorem JL_Pe_close_32 {p : Program} {l : Launch} {e : Env} {s : State} {m : MethodId} {args : Array Value} {below : List Frame} {meth : Method} {c : Code} {G : rs_G} {Bm : Nat} {S : rs_Shp} {Q : rs_Mem → Prop} (C : rs_C "RouteSpeaker$Peer" prog_6_method_15_code 2 none G p s m meth c args) : ∀ n : Nat, ∀ (v0 : Nat) (x1 : Int32) (σ : rs_Mem) (H : Heap) (locs : List Loc) (ls : Array Slot), rs_Ok S 6 v0 → rs_H G Bm S σ H → rs_T S σ → va_S (rs_A Bm) s.heap H locs → lv_has ls 2 [(0, .ref (Bm + v0)), (1, .int x1)] → (L_Pe_close_32 S.2.2 Q n) v0 x1 σ → W p l e { frames := 0, cells := 0, slots := 0, locals := 0 } s m args below meth c H locs 0 0 (MQ below (rs_Qv G Bm S Q) args s 0 0 (rs_A Bm)) (F0 m 32 ls []) := by
  have hx := C.1
  have hb := C.2.1
  intro n
  induction n with
  | zero => intros; rename_i hF; exact hF.elim
  | succ n hK32 =>
    intro v0 x1 σ H locs ls h_v0 hH hT hS hl hF
    replace hF : G_Pe_close_32 S.2.2 Q (L_Pe_close_32 S.2.2 Q n) v0 x1 σ := hF
    unfold G_Pe_close_32 at hF
    refine lv_iload_n hx hb d_Pe_close_32 rfl (lv_at hl 1 rfl) ?_
    refine lv_bipush hx hb d_Pe_close_33 kb_12 ?_
    refine lv_icmp_ge hx hb d_Pe_close_35 (tgt := 63) rfl (fun hc => ?_) (fun hc => ?_)
    · replace hF := hF.1 hc
      exact rs_vret C hH hT hS hF d_Pe_close_63
    · replace hF := hF.2 hc
      refine lv_aload_n hx hb d_Pe_close_38 rfl (lv_at hl 0 rfl) ?_
      refine rs_getR C hH hT h_v0 fk_6_15 tw_282 d_Pe_close_39 (fun h51 => ?_)
      refine rs_getR C hH hT h51 fk_3_2 tw_242 d_Pe_close_42 (fun h52 => ?_)
      refine lv_iload_n hx hb d_Pe_close_45 rfl (lv_at hl 1 rfl) ?_
      refine lv_iconst hx hb d_Pe_close_46 ki_0 ?_
      obtain ⟨g53, hF⟩ := hF
      refine rs_zast C hH hT hS (by decide) h52 g53 d_Pe_close_47 (fun σ54 H locs eσ54 hH hT hS => ?_)
      replace hF := hF σ54 eσ54
      refine lv_aload_n hx hb d_Pe_close_48 rfl (lv_at hl 0 rfl) ?_
      refine rs_getR C hH hT h_v0 fk_6_16 tw_284 d_Pe_close_49 (fun h55 => ?_)
      refine lv_iload_n hx hb d_Pe_close_52 rfl (lv_at hl 1 rfl) ?_
      obtain ⟨g56, hF⟩ := hF
      refine rs_aald C hH hT h55 ak_26 g56 d_Pe_close_53 (fun h57 => ?_)
      refine lv_iconst hx hb d_Pe_close_54 ki_0 ?_
      refine lv_iconst hx hb d_Pe_close_55 ki_0 ?_
      obtain ⟨g58, hF⟩ := hF
      refine rs_iast C hH hT hS h57 g58 d_Pe_close_56 (fun σ59 H locs eσ59 hH hT hS => ?_)
      replace hF := hF σ59 eσ59
      obtain ⟨x60, ex60⟩ : ∃ z : Int32, z = x1 + (1 : Int32) := ⟨_, rfl⟩
      replace hF := hF x60 ex60
      refine lv_iinc hx hb d_Pe_close_57 hl (k := 1) rfl (v := x60) (by rw [ki_1, ex60]) (by decide) (lv' := [(1, .int x60), (0, .ref (Bm + v0))]) rfl (fun ls hl => ?_)
      refine lv_goto hx hb d_Pe_close_60 (tgt := 32) rfl ?_
      exact hK32 v0 x60 σ59 _ _ _ h_v0 hH hT hS (lv_sub hl [1, 0] rfl) hF
abbrev y_Pe_close : MethodName := ({ cls := "RouteSpeaker$Peer", name := "close", desc := "()V" } : Jvm.MethodName)
theorem rc_Pe_close : rs_Cal y_Pe_close prog_6_method_15_code 2 none 0 := ⟨tw_362, tw_7, by decide, by decide, by decide +kernel⟩
set_option maxRecDepth 20000 in
theorem J_Pe_close (l : Launch) {G : rs_G} {Bm : Nat} {S : rs_Shp} {v0 : Nat} {σ : rs_Mem} {Q : rs_Mem → Prop} (h_v0 : rs_Ok S 6 v0) (hF : F_Pe_close S.2.2 v0 σ Q) :
    Met l y_Pe_close (rs_ws y_Pe_close prog_6_method_15_code 2 none) { frames := 0, cells := 0, slots := 0, locals := 0 } (rs_P G Bm S σ [.ref (Bm + v0)]) (rs_Qv G Bm S Q) 0 0 (rs_A Bm) := by
  refine rs_met (own := "RouteSpeaker$Peer") (by decide) rfl (Nat.le_of_ble_eq_true rfl) (fun p e s m below meth c ls C hl hH hT hS => ?_)
  replace hl : lv_has ls 2 [(0, .ref (Bm + v0))] := hl
  have hx := C.1
  have hb := C.2.1
  unfold F_Pe_close at hF
  refine lv_aload_n hx hb d_Pe_close_0 rfl (lv_at hl 0 rfl) ?_
  refine lv_iconst hx hb d_Pe_close_1 ki_0 ?_
  refine rs_putI C hH hT hS h_v0 fk_6_6 rfl tw_266 d_Pe_close_2 (fun σ51 H locs eσ51 hH hT hS => ?_)
  replace hF := hF σ51 eσ51
  refine lv_aload_n hx hb d_Pe_close_5 rfl (lv_at hl 0 rfl) ?_
  refine lv_iconst hx hb d_Pe_close_6 ki_0 ?_
  refine rs_putI C hH hT hS h_v0 fk_6_7 rfl tw_268 d_Pe_close_7 (fun σ52 H locs eσ52 hH hT hS => ?_)
  replace hF := hF σ52 eσ52
  refine lv_aload_n hx hb d_Pe_close_10 rfl (lv_at hl 0 rfl) ?_
  refine lv_iconst hx hb d_Pe_close_11 ki_0 ?_
  refine rs_putI C hH hT hS h_v0 fk_6_8 rfl tw_270 d_Pe_close_12 (fun σ53 H locs eσ53 hH hT hS => ?_)
  replace hF := hF σ53 eσ53
  refine lv_aload_n hx hb d_Pe_close_15 rfl (lv_at hl 0 rfl) ?_
  refine lv_iconst hx hb d_Pe_close_16 ki_0 ?_
  refine rs_putI C hH hT hS h_v0 fk_6_9 rfl tw_272 d_Pe_close_17 (fun σ54 H locs eσ54 hH hT hS => ?_)
  replace hF := hF σ54 eσ54
  refine lv_aload_n hx hb d_Pe_close_20 rfl (lv_at hl 0 rfl) ?_
  refine lv_iconst hx hb d_Pe_close_21 ki_0 ?_
  refine rs_putI C hH hT hS h_v0 fk_6_10 rfl tw_275 d_Pe_close_22 (fun σ55 H locs eσ55 hH hT hS => ?_)
  replace hF := hF σ55 eσ55
  refine lv_aload_n hx hb d_Pe_close_25 rfl (lv_at hl 0 rfl) ?_
  refine lv_iconst hx hb d_Pe_close_26 ki_0 ?_
  refine rs_putI C hH hT hS h_v0 fk_6_11 rfl tw_276 d_Pe_close_27 (fun σ56 H locs eσ56 hH hT hS => ?_)
  replace hF := hF σ56 eσ56
  refine lv_iconst hx hb d_Pe_close_30 ki_0 ?_
  refine lv_istore_n hx hb d_Pe_close_31 rfl hl (by decide) (lv' := [(1, .int (0 : Int32)), (0, .ref (Bm + v0))]) rfl (fun ls hl => ?_)
  obtain ⟨n, hF⟩ := hF
  exact JL_Pe_close_32 C n v0 (0 : Int32) σ56 _ _ _ h_v0 hH hT hS (lv_sub hl [1, 0] rfl) hF
/-! RouteSpeaker$Peer.send([II)Z -/
theorem d_Pe_send_0 : decode prog_6_method_13_code 0 = .ok (.aload_n 0, 1) := by decide +kernel
theorem d_Pe_send_1 : decode prog_6_method_13_code 1 = .ok (.getfield 29, 3) := by decide +kernel
theorem d_Pe_send_4 : decode prog_6_method_13_code 4 = .ok (.aload_n 1, 1) := by decide +kernel
theorem d_Pe_send_5 : decode prog_6_method_13_code 5 = .ok (.iload_n 2, 1) := by decide +kernel
theorem d_Pe_send_6 : decode prog_6_method_13_code 6 = .ok (.invokevirtual 117, 3) := by decide +kernel
theorem d_Pe_send_9 : decode prog_6_method_13_code 9 = .ok (.istore_n 3, 1) := by decide +kernel
theorem d_Pe_send_10 : decode prog_6_method_13_code 10 = .ok (.iload_n 3, 1) := by decide +kernel
theorem d_Pe_send_11 : decode prog_6_method_13_code 11 = .ok (.ifCond .ne (7), 3) := by decide +kernel
theorem d_Pe_send_14 : decode prog_6_method_13_code 14 = .ok (.aload_n 0, 1) := by decide +kernel
theorem d_Pe_send_15 : decode prog_6_method_13_code 15 = .ok (.invokevirtual 68, 3) := by decide +kernel
theorem d_Pe_send_18 : decode prog_6_method_13_code 18 = .ok (.iload_n 3, 1) := by decide +kernel
theorem d_Pe_send_19 : decode prog_6_method_13_code 19 = .ok (.ireturn, 1) := by decide +kernel
def F_Pe_send (N : Nat → Nat) (v0 : Nat) (v1 : Nat) (x2 : Int32) (σ : rs_Mem) (Q : Int32 → rs_Mem → Prop) : Prop :=
  (F_Ob_put N (rs_R σ v0 13) v1 x2 σ (fun x53 σ52 => ((¬ (x53 = 0) → ((x53 &&& 1 = x53) ∧ Q x53 σ52)) ∧ (x53 = 0 → (F_Pe_close N v0 σ52 (fun σ54 => ((x53 &&& 1 = x53) ∧ Q x53 σ54)))))))
abbrev y_Pe_send : MethodName := ({ cls := "RouteSpeaker$Peer", name := "send", desc := "([II)Z" } : Jvm.MethodName)
theorem rc_Pe_send : rs_Cal y_Pe_send prog_6_method_13_code 4 (some .boolean) 2 := ⟨tw_354, tw_7, by decide, by decide, by decide +kernel⟩
set_option maxRecDepth 20000 in
theorem J_Pe_send (l : Launch) {G : rs_G} {Bm : Nat} {S : rs_Shp} {v0 : Nat} {v1 : Nat} {x2 : Int32} {σ : rs_Mem} {Q : Int32 → rs_Mem → Prop} (h_v0 : rs_Ok S 6 v0) (h_v1 : rs_Ok S 20 v1) (hF : F_Pe_send S.2.2 v0 v1 x2 σ Q) :
    Met l y_Pe_send (rs_ws y_Pe_send prog_6_method_13_code 4 (some .boolean)) { frames := 1, cells := 0, slots := 0, locals := 23 } (rs_P G Bm S σ [.ref (Bm + v0), .ref (Bm + v1), .int x2]) (rs_Qi G Bm S Q) 0 0 (rs_A Bm) := by
  refine rs_met (own := "RouteSpeaker$Peer") (by decide) rfl (Nat.le_of_ble_eq_true rfl) (fun p e s m below meth c ls C hl hH hT hS => ?_)
  replace hl : lv_has ls 4 [(0, .ref (Bm + v0)), (1, .ref (Bm + v1)), (2, .int x2)] := hl
  have hx := C.1
  have hb := C.2.1
  unfold F_Pe_send at hF
  refine lv_aload_n hx hb d_Pe_send_0 rfl (lv_at hl 0 rfl) ?_
  refine rs_getR C hH hT h_v0 fk_6_13 tw_279 d_Pe_send_1 (fun h51 => ?_)
  refine lv_aload_n hx hb d_Pe_send_4 rfl (lv_at hl 1 rfl) ?_
  refine lv_iload_n hx hb d_Pe_send_5 rfl (lv_at hl 2 rfl) ?_
  refine rs_ci (rs_runV C hH hT hl (J_Ob_put l h51 h_v1 hF) rc_Ob_put tw_355 tw_356 tw_357 h51 ⟨rfl, by decide, by decide⟩ rfl ⟨⟨rfl, rfl⟩, by decide, by decide, by decide⟩ (Nat.le_of_ble_eq_true rfl) rfl d_Pe_send_6) hS (fun x53 σ52 H locs hH hT hS hF => ?_)
  refine lv_istore_n hx hb d_Pe_send_9 rfl hl (by decide) (lv' := [(3, .int x53), (0, .ref (Bm + v0)), (1, .ref (Bm + v1)), (2, .int x2)]) rfl (fun ls hl => ?_)
  refine lv_iload_n hx hb d_Pe_send_10 rfl (lv_at hl 0 rfl) ?_
  refine lv_if_ne hx hb d_Pe_send_11 (tgt := 18) rfl (fun hc => ?_) (fun hc => ?_)
  · replace hF := hF.1 hc
    refine lv_iload_n hx hb d_Pe_send_18 rfl (lv_at hl 0 rfl) ?_
    exact rs_zret C hH hT hS hF.1 hF.2 d_Pe_send_19
  · replace hF := hF.2 hc
    refine lv_aload_n hx hb d_Pe_send_14 rfl (lv_at hl 1 rfl) ?_
    refine rs_cv (rs_runV C hH hT hl (J_Pe_close l h_v0 hF) rc_Pe_close tw_359 tw_361 ts_1 h_v0 ⟨rfl, by decide, by decide⟩ rfl ⟨⟨rfl, rfl⟩, by decide, by decide, by decide⟩ (Nat.le_of_ble_eq_true rfl) rfl d_Pe_send_15) hS (fun σ54 H locs hH hT hS hF => ?_)
    refine lv_iload_n hx hb d_Pe_send_18 rfl (lv_at hl 0 rfl) ?_
    exact rs_zret C hH hT hS hF.1 hF.2 d_Pe_send_19
/-! RouteSpeaker$Peer.announce(ILRouteSpeaker$Letter;)Z -/
theorem d_Pe_announce_0 : decode prog_6_method_10_code 0 = .ok (.aload_n 0, 1) := by decide +kernel
theorem d_Pe_announce_1 : decode prog_6_method_10_code 1 = .ok (.iload_n 1, 1) := by decide +kernel
theorem d_Pe_announce_2 : decode prog_6_method_10_code 2 = .ok (.aload_n 2, 1) := by decide +kernel
theorem d_Pe_announce_3 : decode prog_6_method_10_code 3 = .ok (.invokevirtual 102, 3) := by decide +kernel
theorem d_Pe_announce_6 : decode prog_6_method_10_code 6 = .ok (.ifCond .eq (5), 3) := by decide +kernel
theorem d_Pe_announce_9 : decode prog_6_method_10_code 9 = .ok (.iconst 1, 1) := by decide +kernel
theorem d_Pe_announce_10 : decode prog_6_method_10_code 10 = .ok (.ireturn, 1) := by decide +kernel
theorem d_Pe_announce_11 : decode prog_6_method_10_code 11 = .ok (.iconst 0, 1) := by decide +kernel
theorem d_Pe_announce_12 : decode prog_6_method_10_code 12 = .ok (.istore_n 3, 1) := by decide +kernel
theorem d_Pe_announce_13 : decode prog_6_method_10_code 13 = .ok (.iload_n 3, 1) := by decide +kernel
theorem d_Pe_announce_14 : decode prog_6_method_10_code 14 = .ok (.aload_n 2, 1) := by decide +kernel
theorem d_Pe_announce_15 : decode prog_6_method_10_code 15 = .ok (.getfield 106, 3) := by decide +kernel
theorem d_Pe_announce_18 : decode prog_6_method_10_code 18 = .ok (.if_icmp .ge (29), 3) := by decide +kernel
theorem d_Pe_announce_21 : decode prog_6_method_10_code 21 = .ok (.iload_n 3, 1) := by decide +kernel
theorem d_Pe_announce_22 : decode prog_6_method_10_code 22 = .ok (.bipush (40), 2) := by decide +kernel
theorem d_Pe_announce_24 : decode prog_6_method_10_code 24 = .ok (.if_icmp .ge (23), 3) := by decide +kernel
theorem d_Pe_announce_27 : decode prog_6_method_10_code 27 = .ok (.aload_n 0, 1) := by decide +kernel
theorem d_Pe_announce_28 : decode prog_6_method_10_code 28 = .ok (.getfield 45, 3) := by decide +kernel
theorem d_Pe_announce_31 : decode prog_6_method_10_code 31 = .ok (.iload_n 1, 1) := by decide +kernel
theorem d_Pe_announce_32 : decode prog_6_method_10_code 32 = .ok (.aaload, 1) := by decide +kernel
theorem d_Pe_announce_33 : decode prog_6_method_10_code 33 = .ok (.iload_n 3, 1) := by decide +kernel
theorem d_Pe_announce_34 : decode prog_6_method_10_code 34 = .ok (.aload_n 2, 1) := by decide +kernel
theorem d_Pe_announce_35 : decode prog_6_method_10_code 35 = .ok (.getfield 111, 3) := by decide +kernel
theorem d_Pe_announce_38 : decode prog_6_method_10_code 38 = .ok (.iload_n 3, 1) := by decide +kernel
theorem d_Pe_announce_39 : decode prog_6_method_10_code 39 = .ok (.iaload, 1) := by decide +kernel
theorem d_Pe_announce_40 : decode prog_6_method_10_code 40 = .ok (.iastore, 1) := by decide +kernel
theorem d_Pe_announce_41 : decode prog_6_method_10_code 41 = .ok (.iinc 3 (1), 3) := by decide +kernel
theorem d_Pe_announce_44 : decode prog_6_method_10_code 44 = .ok (.goto (-31), 3) := by decide +kernel
theorem d_Pe_announce_47 : decode prog_6_method_10_code 47 = .ok (.aload_n 0, 1) := by decide +kernel
theorem d_Pe_announce_48 : decode prog_6_method_10_code 48 = .ok (.aload_n 2, 1) := by decide +kernel
theorem d_Pe_announce_49 : decode prog_6_method_10_code 49 = .ok (.getfield 111, 3) := by decide +kernel
theorem d_Pe_announce_52 : decode prog_6_method_10_code 52 = .ok (.aload_n 2, 1) := by decide +kernel
theorem d_Pe_announce_53 : decode prog_6_method_10_code 53 = .ok (.getfield 106, 3) := by decide +kernel
theorem d_Pe_announce_56 : decode prog_6_method_10_code 56 = .ok (.invokevirtual 64, 3) := by decide +kernel
theorem d_Pe_announce_59 : decode prog_6_method_10_code 59 = .ok (.ireturn, 1) := by decide +kernel
def B_Pe_announce_47 (N : Nat → Nat) (Q : Int32 → rs_Mem → Prop) (v0 : Nat) (v2 : Nat) (σ : rs_Mem) : Prop :=
  (F_Pe_send N v0 (rs_R σ v2 0) (rs_I σ v2 1) σ (fun x53 σ52 => ((x53 &&& 1 = x53) ∧ Q x53 σ52)))
def G_Pe_announce_13 (N : Nat → Nat) (Q : Int32 → rs_Mem → Prop) (K13 : Nat → Int32 → Nat → Int32 → rs_Mem → Prop) (v0 : Nat) (x1 : Int32) (v2 : Nat) (x3 : Int32) (σ : rs_Mem) : Prop :=
  (((rs_I σ v2 1) ≤ x3 → (B_Pe_announce_47 N Q v0 v2 σ)) ∧ (¬ ((rs_I σ v2 1) ≤ x3) → (((40 : Int32) ≤ x3 → (B_Pe_announce_47 N Q v0 v2 σ)) ∧ (¬ ((40 : Int32) ≤ x3) → (vp_in x1 (N (rs_R σ v0 16)) ∧ (vp_in x3 (N (rs_R σ v2 0)) ∧ (vp_in x3 (N (rs_R σ (rs_R σ v0 16) x1.toNatClampNeg)) ∧ ∀ σ57 : rs_Mem, σ57 = rs_sI σ (rs_R σ (rs_R σ v0 16) x1.toNatClampNeg) x3.toNatClampNeg (rs_I σ (rs_R σ v2 0) x3.toNatClampNeg) → (∀ x58 : Int32, x58 = x3 + (1 : Int32) → (K13 v0 x1 v2 x58 σ57)))))))))
noncomputable def L_Pe_announce_13 (N : Nat → Nat) (Q : Int32 → rs_Mem → Prop) (n : Nat) : Nat → Int32 → Nat → Int32 → rs_Mem → Prop := Nat.rec (motive := fun _ => Nat → Int32 → Nat → Int32 → rs_Mem → Prop) (fun _ _ _ _ _ => False) (fun _ K => G_Pe_announce_13 N Q K) n
def F_Pe_announce (N : Nat → Nat) (v0 : Nat) (x1 : Int32) (v2 : Nat) (σ : rs_Mem) (Q : Int32 → rs_Mem → Prop) : Prop :=
  (F_Pe_isTold N v0 x1 v2 σ (fun x52 σ51 => ((x52 = 0 → (∃ n : Nat, L_Pe_announce_13 N Q n v0 x1 v2 (0 : Int32) σ51)) ∧ (¬ (x52 = 0) → (Q (1 : Int32) σ51)))))
set_option maxRecDepth 20000 in
theorem JB_Pe_announce_47 {p : Program} {l : Launch} {e : Env} {s : State} {m : MethodId} {args : Array Value} {below : List Frame} {meth : Method} {c : Code} {G : rs_G} {Bm : Nat} {S : rs_Shp} {Q : Int32 → rs_Mem → Prop} (C : rs_C "RouteSpeaker$Peer" prog_6_method_10_code 4 (some .boolean) G p s m meth c args) (v0 : Nat) (v2 : Nat) (σ : rs_Mem) (H : Heap) (locs : List Loc) (ls : Array Slot) (h_v0 : rs_Ok S 6 v0) (h_v2 : rs_Ok S 4 v2) (hH : rs_H G Bm S σ H) (hT : rs_T S σ) (hS : va_S (rs_A Bm) s.heap H locs) (hl : lv_has ls 4 [(0, .ref (Bm + v0)), (2, .ref (Bm + v2))]) (hF : B_Pe_announce_47 S.2.2 Q v0 v2 σ) :
    W p l e { frames := 2, cells := 0, slots := 0, locals := 46 } s m args below meth c H locs 0 0 (MQ below (rs_Qi G Bm S Q) args s 0 0 (rs_A Bm)) (F0 m 47 ls []) := by
  have hx := C.1
  have hb := C.2.1
  unfold B_Pe_announce_47 at hF
  refine lv_aload_n hx hb d_Pe_announce_47 rfl (lv_at hl 0 rfl) ?_
  refine lv_aload_n hx hb d_Pe_announce_48 rfl (lv_at hl 1 rfl) ?_
  refine rs_getR C hH hT h_v2 fk_4_0 tw_173 d_Pe_announce_49 (fun h51 => ?_)
  refine lv_aload_n hx hb d_Pe_announce_52 rfl (lv_at hl 1 rfl) ?_
  refine rs_getI C hH h_v2 fk_4_1 tw_175 d_Pe_announce_53 ?_
  refine rs_ci (rs_runV C hH hT hl (J_Pe_send l h_v0 h51 hF) rc_Pe_send tw_351 tw_353 ts_0 h_v0 ⟨rfl, by decide, by decide⟩ rfl ⟨⟨rfl, rfl⟩, by decide, by decide, by decide⟩ (Nat.le_of_ble_eq_true rfl) rfl d_Pe_announce_56) hS (fun x53 σ52 H locs hH hT hS hF => ?_)
  exact rs_zret C hH hT hS hF.1 hF.2 d_Pe_announce_59
set_option maxRecDepth 20000 in
theorem JL_Pe_announce_13 {p : Program} {l : Launch} {e : Env} {s : State} {m : MethodId} {args : Array Value} {below : List Frame} {meth : Method} {c : Code} {G : rs_G} {Bm : Nat} {S : rs_Shp} {Q : Int32 → rs_Mem → Prop} (C : rs_C "RouteSpeaker$Peer" prog_6_method_10_code 4 (some .boolean) G p s m meth c args) : ∀ n : Nat, ∀ (v0 : Nat) (x1 : Int32) (v2 : Nat) (x3 : Int32) (σ : rs_Mem) (H : Heap) (locs : List Loc) (ls : Array Slot), rs_Ok S 6 v0 → rs_Ok S 4 v2 → rs_H G Bm S σ H → rs_T S σ → va_S (rs_A Bm) s.heap H locs → lv_has ls 4 [(0, .ref (Bm + v0)), (1, .int x1), (2, .ref (Bm + v2)), (3, .int x3)] → (L_Pe_announce_13 S.2.2 Q n) v0 x1 v2 x3 σ → W p l e { frames := 2, cells := 0, slots := 0, locals := 46 } s m args below meth c H locs 0 0 (MQ below (rs_Qi G Bm S Q) args s 0 0 (rs_A Bm)) (F0 m 13 ls []) := by
  have hx := C.1
  have hb := C.2.1
  intro n
  induction n with
  | zero => intros; rename_i hF; exact hF.elim
  | succ n hK13 =>
    intro v0 x1 v2 x3 σ H locs ls h_v0 h_v2 hH hT hS hl hF
    replace hF : G_Pe_announce_13 S.2.2 Q (L_Pe_announce_13 S.2.2 Q n) v0 x1 v2 x3 σ := hF
    unfold G_Pe_announce_13 at hF
    refine lv_iload_n hx hb d_Pe_announce_13 rfl (lv_at hl 3 rfl) ?_
    refine lv_aload_n hx hb d_Pe_announce_14 rfl (lv_at hl 2 rfl) ?_
    refine rs_getI C hH h_v2 fk_4_1 tw_175 d_Pe_announce_15 ?_
    refine lv_icmp_ge hx hb d_Pe_announce_18 (tgt := 47) rfl (fun hc => ?_) (fun hc => ?_)
    · replace hF := hF.1 hc
      exact JB_Pe_announce_47 C v0 v2 σ _ _ _ h_v0 h_v2 hH hT hS (lv_sub hl [0, 2] rfl) hF
    · replace hF := hF.2 hc
      refine lv_iload_n hx hb d_Pe_announce_21 rfl (lv_at hl 3 rfl) ?_
      refine lv_bipush hx hb d_Pe_announce_22 kb_40 ?_
      refine lv_icmp_ge hx hb d_Pe_announce_24 (tgt := 47) rfl (fun hc => ?_) (fun hc => ?_)
      · replace hF := hF.1 hc
        exact JB_Pe_announce_47 C v0 v2 σ _ _ _ h_v0 h_v2 hH hT hS (lv_sub hl [0, 2] rfl) hF
      · replace hF := hF.2 hc
        refine lv_aload_n hx hb d_Pe_announce_27 rfl (lv_at hl 0 rfl) ?_
        refine rs_getR C hH hT h_v0 fk_6_16 tw_284 d_Pe_announce_28 (fun h51 => ?_)
        refine lv_iload_n hx hb d_Pe_announce_31 rfl (lv_at hl 1 rfl) ?_
        obtain ⟨g52, hF⟩ := hF
        refine rs_aald C hH hT h51 ak_26 g52 d_Pe_announce_32 (fun h53 => ?_)
        refine lv_iload_n hx hb d_Pe_announce_33 rfl (lv_at hl 3 rfl) ?_
        refine lv_aload_n hx hb d_Pe_announce_34 rfl (lv_at hl 2 rfl) ?_
        refine rs_getR C hH hT h_v2 fk_4_0 tw_173 d_Pe_announce_35 (fun h54 => ?_)
        refine lv_iload_n hx hb d_Pe_announce_38 rfl (lv_at hl 3 rfl) ?_
        obtain ⟨g55, hF⟩ := hF
        refine rs_iald C hH h54 g55 d_Pe_announce_39 ?_
        obtain ⟨g56, hF⟩ := hF
        refine rs_iast C hH hT hS h53 g56 d_Pe_announce_40 (fun σ57 H locs eσ57 hH hT hS => ?_)
        replace hF := hF σ57 eσ57
        obtain ⟨x58, ex58⟩ : ∃ z : Int32, z = x3 + (1 : Int32) := ⟨_, rfl⟩
        replace hF := hF x58 ex58
        refine lv_iinc hx hb d_Pe_announce_41 hl (k := 3) rfl (v := x58) (by rw [ki_1, ex58]) (by decide) (lv' := [(3, .int x58), (0, .ref (Bm + v0)), (1, .int x1), (2, .ref (Bm + v2))]) rfl (fun ls hl => ?_)
        refine lv_goto hx hb d_Pe_announce_44 (tgt := 13) rfl ?_
        exact hK13 v0 x1 v2 x58 σ57 _ _ _ h_v0 h_v2 hH hT hS (lv_sub hl [1, 2, 3, 0] rfl) hF
abbrev y_Pe_announce : MethodName := ({ cls := "RouteSpeaker$Peer", name := "announce", desc := "(ILRouteSpeaker$Letter;)Z" } : Jvm.MethodName)
theorem rc_Pe_announce : rs_Cal y_Pe_announce prog_6_method_10_code 4 (some .boolean) 2 := ⟨tw_500, tw_7, by decide, by decide, by decide +kernel⟩
set_option maxRecDepth 20000 in
theorem J_Pe_announce (l : Launch) {G : rs_G} {Bm : Nat} {S : rs_Shp} {v0 : Nat} {x1 : Int32} {v2 : Nat} {σ : rs_Mem} {Q : Int32 → rs_Mem → Prop} (h_v0 : rs_Ok S 6 v0) (h_v2 : rs_Ok S 4 v2) (hF : F_Pe_announce S.2.2 v0 x1 v2 σ Q) :
    Met l y_Pe_announce (rs_ws y_Pe_announce prog_6_method_10_code 4 (some .boolean)) { frames := 2, cells := 0, slots := 0, locals := 46 } (rs_P G Bm S σ [.ref (Bm + v0), .int x1, .ref (Bm + v2)]) (rs_Qi G Bm S Q) 0 0 (rs_A Bm) := by
  refine rs_met (own := "RouteSpeaker$Peer") (by decide) rfl (Nat.le_of_ble_eq_true rfl) (fun p e s m below meth c ls C hl hH hT hS => ?_)
  replace hl : lv_has ls 4 [(0, .ref (Bm + v0)), (1, .int x1), (2, .ref (Bm + v2))] := hl
  have hx := C.1
  have hb := C.2.1
  unfold F_Pe_announce at hF
  refine lv_aload_n hx hb d_Pe_announce_0 rfl (lv_at hl 0 rfl) ?_
  refine lv_iload_n hx hb d_Pe_announce_1 rfl (lv_at hl 1 rfl) ?_
  refine lv_aload_n hx hb d_Pe_announce_2 rfl (lv_at hl 2 rfl) ?_
  refine rs_ci (rs_runV C hH hT hl (J_Pe_isTold l h_v0 h_v2 hF) rc_Pe_isTold tw_501 tw_503 ts_19 h_v0 ⟨rfl, by decide, by decide⟩ rfl ⟨⟨rfl, rfl⟩, by decide, by decide, by decide⟩ (Nat.le_of_ble_eq_true rfl) rfl d_Pe_announce_3) hS (fun x52 σ51 H locs hH hT hS hF => ?_)
  refine lv_if_eq hx hb d_Pe_announce_6 (tgt := 11) rfl (fun hc => ?_) (fun hc => ?_)
  · replace hF := hF.1 hc
    refine lv_iconst hx hb d_Pe_announce_11 ki_0 ?_
    refine lv_istore_n hx hb d_Pe_announce_12 rfl hl (by decide) (lv' := [(3, .int (0 : Int32)), (0, .ref (Bm + v0)), (1, .int x1), (2, .ref (Bm + v2))]) rfl (fun ls hl => ?_)
    obtain ⟨n, hF⟩ := hF
    exact JL_Pe_announce_13 C n v0 x1 v2 (0 : Int32) σ51 _ _ _ h_v0 h_v2 hH hT hS (lv_sub hl [1, 2, 3, 0] rfl) hF
  · replace hF := hF.2 hc
    refine lv_iconst hx hb d_Pe_announce_9 ki_1 ?_
    exact rs_zret C hH hT hS (by decide) hF d_Pe_announce_10
/-! RouteSpeaker$Letter.writeWithdrawal()V -/
theorem d_Le_writeWithdrawal_0 : decode prog_4_method_5_code 0 = .ok (.aload_n 0, 1) := by decide +kernel
theorem d_Le_writeWithdrawal_1 : decode prog_4_method_5_code 1 = .ok (.iconst 1, 1) := by decide +kernel
theorem d_Le_writeWithdrawal_2 : decode prog_4_method_5_code 2 = .ok (.invokevirtual 27, 3) := by decide +kernel
theorem d_Le_writeWithdrawal_5 : decode prog_4_method_5_code 5 = .ok (.aload_n 0, 1) := by decide +kernel
theorem d_Le_writeWithdrawal_6 : decode prog_4_method_5_code 6 = .ok (.aload_n 0, 1) := by decide +kernel
theorem d_Le_writeWithdrawal_7 : decode prog_4_method_5_code 7 = .ok (.getfield 15, 3) := by decide +kernel
theorem d_Le_writeWithdrawal_10 : decode prog_4_method_5_code 10 = .ok (.invokevirtual 31, 3) := by decide +kernel
theorem d_Le_writeWithdrawal_13 : decode prog_4_method_5_code 13 = .ok (.aload_n 0, 1) := by decide +kernel
theorem d_Le_writeWithdrawal_14 : decode prog_4_method_5_code 14 = .ok (.aload_n 0, 1) := by decide +kernel
theorem d_Le_writeWithdrawal_15 : decode prog_4_method_5_code 15 = .ok (.getfield 19, 3) := by decide +kernel
theorem d_Le_writeWithdrawal_18 : decode prog_4_method_5_code 18 = .ok (.invokevirtual 31, 3) := by decide +kernel
theorem d_Le_writeWithdrawal_21 : decode prog_4_method_5_code 21 = .ok (.aload_n 0, 1) := by decide +kernel
theorem d_Le_writeWithdrawal_22 : decode prog_4_method_5_code 22 = .ok (.iconst 0, 1) := by decide +kernel
theorem d_Le_writeWithdrawal_23 : decode prog_4_method_5_code 23 = .ok (.invokevirtual 31, 3) := by decide +kernel
theorem d_Le_writeWithdrawal_26 : decode prog_4_method_5_code 26 = .ok (.aload_n 0, 1) := by decide +kernel
theorem d_Le_writeWithdrawal_27 : decode prog_4_method_5_code 27 = .ok (.getfield 9, 3) := by decide +kernel
theorem d_Le_writeWithdrawal_30 : decode prog_4_method_5_code 30 = .ok (.iconst 0, 1) := by decide +kernel
theorem d_Le_writeWithdrawal_31 : decode prog_4_method_5_code 31 = .ok (.aload_n 0, 1) := by decide +kernel
theorem d_Le_writeWithdrawal_32 : decode prog_4_method_5_code 32 = .ok (.getfield 67, 3) := by decide +kernel
theorem d_Le_writeWithdrawal_35 : decode prog_4_method_5_code 35 = .ok (.iastore, 1) := by decide +kernel
theorem d_Le_writeWithdrawal_36 : decode prog_4_method_5_code 36 = .ok (.return_, 1) := by decide +kernel
def F_Le_writeWithdrawal (N : Nat → Nat) (v0 : Nat) (σ : rs_Mem) (Q : rs_Mem → Prop) : Prop :=
  (F_Le_begin N v0 (1 : Int32) σ (fun σ51 => (F_Le_add N v0 (rs_I σ51 v0 2) σ51 (fun σ52 => (F_Le_add N v0 (rs_I σ52 v0 3) σ52 (fun σ53 => (F_Le_add N v0 (0 : Int32) σ53 (fun σ54 => (vp_in (0 : Int32) (N (rs_R σ54 v0 0)) ∧ ∀ σ57 : rs_Mem, σ57 = rs_sI σ54 (rs_R σ54 v0 0) (0 : Int32).toNatClampNeg (rs_I σ54 v0 1) → (Q σ57))))))))))
abbrev y_Le_writeWithdrawal : MethodName := ({ cls := "RouteSpeaker$Letter", name := "writeWithdrawal", desc := "()V" } : Jvm.MethodName)
theorem rc_Le_writeWithdrawal : rs_Cal y_Le_writeWithdrawal prog_4_method_5_code 1 none 0 := ⟨tw_512, tw_6, by decide, by decide, by decide +kernel⟩
set_option maxRecDepth 20000 in
theorem J_Le_writeWithdrawal (l : Launch) {G : rs_G} {Bm : Nat} {S : rs_Shp} {v0 : Nat} {σ : rs_Mem} {Q : rs_Mem → Prop} (h_v0 : rs_Ok S 4 v0) (hF : F_Le_writeWithdrawal S.2.2 v0 σ Q) :
    Met l y_Le_writeWithdrawal (rs_ws y_Le_writeWithdrawal prog_4_method_5_code 1 none) { frames := 1, cells := 0, slots := 0, locals := 21 } (rs_P G Bm S σ [.ref (Bm + v0)]) (rs_Qv G Bm S Q) 0 0 (rs_A Bm) := by
  refine rs_met (own := "RouteSpeaker$Letter") (by decide) rfl (Nat.le_of_ble_eq_true rfl) (fun p e s m below meth c ls C hl hH hT hS => ?_)
  replace hl : lv_has ls 1 [(0, .ref (Bm + v0))] := hl
  have hx := C.1
  have hb := C.2.1
  unfold F_Le_writeWithdrawal at hF
  refine lv_aload_n hx hb d_Le_writeWithdrawal_0 rfl (lv_at hl 0 rfl) ?_
  refine lv_iconst hx hb d_Le_writeWithdrawal_1 ki_1 ?_
  refine rs_cv (rs_runV C hH hT hl (J_Le_begin l h_v0 hF) rc_Le_begin tw_472 tw_474 ts_14 h_v0 ⟨rfl, by decide, by decide⟩ rfl ⟨⟨rfl, rfl⟩, by decide, by decide, by decide⟩ (Nat.le_of_ble_eq_true rfl) rfl d_Le_writeWithdrawal_2) hS (fun σ51 H locs hH hT hS hF => ?_)
  refine lv_aload_n hx hb d_Le_writeWithdrawal_5 rfl (lv_at hl 0 rfl) ?_
  refine lv_aload_n hx hb d_Le_writeWithdrawal_6 rfl (lv_at hl 0 rfl) ?_
  refine rs_getI C hH h_v0 fk_4_2 tw_176 d_Le_writeWithdrawal_7 ?_
  refine rs_cv (rs_runV C hH hT hl (J_Le_add l h_v0 hF) rc_Le_add tw_476 tw_478 ts_15 h_v0 ⟨rfl, by decide, by decide⟩ rfl ⟨⟨rfl, rfl⟩, by decide, by decide, by decide⟩ (Nat.le_of_ble_eq_true rfl) rfl d_Le_writeWithdrawal_10) hS (fun σ52 H locs hH hT hS hF => ?_)
  refine lv_aload_n hx hb d_Le_writeWithdrawal_13 rfl (lv_at hl 0 rfl) ?_
  refine lv_aload_n hx hb d_Le_writeWithdrawal_14 rfl (lv_at hl 0 rfl) ?_
  refine rs_getI C hH h_v0 fk_4_3 tw_177 d_Le_writeWithdrawal_15 ?_
  refine rs_cv (rs_runV C hH hT hl (J_Le_add l h_v0 hF) rc_Le_add tw_476 tw_478 ts_15 h_v0 ⟨rfl, by decide, by decide⟩ rfl ⟨⟨rfl, rfl⟩, by decide, by decide, by decide⟩ (Nat.le_of_ble_eq_true rfl) rfl d_Le_writeWithdrawal_18) hS (fun σ53 H locs hH hT hS hF => ?_)
  refine lv_aload_n hx hb d_Le_writeWithdrawal_21 rfl (lv_at hl 0 rfl) ?_
  refine lv_iconst hx hb d_Le_writeWithdrawal_22 ki_0 ?_
  refine rs_cv (rs_runV C hH hT hl (J_Le_add l h_v0 hF) rc_Le_add tw_476 tw_478 ts_15 h_v0 ⟨rfl, by decide, by decide⟩ rfl ⟨⟨rfl, rfl⟩, by decide, by decide, by decide⟩ (Nat.le_of_ble_eq_true rfl) rfl d_Le_writeWithdrawal_23) hS (fun σ54 H locs hH hT hS hF => ?_)
  refine lv_aload_n hx hb d_Le_writeWithdrawal_26 rfl (lv_at hl 0 rfl) ?_
  refine rs_getR C hH hT h_v0 fk_4_0 tw_172 d_Le_writeWithdrawal_27 (fun h55 => ?_)
  refine lv_iconst hx hb d_Le_writeWithdrawal_30 ki_0 ?_
  refine lv_aload_n hx hb d_Le_writeWithdrawal_31 rfl (lv_at hl 0 rfl) ?_
  refine rs_getI C hH h_v0 fk_4_1 tw_174 d_Le_writeWithdrawal_32 ?_
  obtain ⟨g56, hF⟩ := hF
  refine rs_iast C hH hT hS h55 g56 d_Le_writeWithdrawal_35 (fun σ57 H locs eσ57 hH hT hS => ?_)
  replace hF := hF σ57 eσ57
  exact rs_vret C hH hT hS hF d_Le_writeWithdrawal_36
/-! RouteSpeaker$Peer.withdraw(ILRouteSpeaker$Letter;)Z -/
theorem d_Pe_withdraw_0 : decode prog_6_method_11_code 0 = .ok (.aload_n 0, 1) := by decide +kernel
theorem d_Pe_withdraw_1 : decode prog_6_method_11_code 1 = .ok (.getfield 45, 3) := by decide +kernel
theorem d_Pe_withdraw_4 : decode prog_6_method_11_code 4 = .ok (.iload_n 1, 1) := by decide +kernel
theorem d_Pe_withdraw_5 : decode prog_6_method_11_code 5 = .ok (.aaload, 1) := by decide +kernel
theorem d_Pe_withdraw_6 : decode prog_6_method_11_code 6 = .ok (.iconst 0, 1) := by decide +kernel
theorem d_Pe_withdraw_7 : decode prog_6_method_11_code 7 = .ok (.iaload, 1) := by decide +kernel
theorem d_Pe_withdraw_8 : decode prog_6_method_11_code 8 = .ok (.ifCond .ne (5), 3) := by decide +kernel
theorem d_Pe_withdraw_11 : decode prog_6_method_11_code 11 = .ok (.iconst 1, 1) := by decide +kernel
theorem d_Pe_withdraw_12 : decode prog_6_method_11_code 12 = .ok (.ireturn, 1) := by decide +kernel
theorem d_Pe_withdraw_13 : decode prog_6_method_11_code 13 = .ok (.aload_n 0, 1) := by decide +kernel
theorem d_Pe_withdraw_14 : decode prog_6_method_11_code 14 = .ok (.getfield 45, 3) := by decide +kernel
theorem d_Pe_withdraw_17 : decode prog_6_method_11_code 17 = .ok (.iload_n 1, 1) := by decide +kernel
theorem d_Pe_withdraw_18 : decode prog_6_method_11_code 18 = .ok (.aaload, 1) := by decide +kernel
theorem d_Pe_withdraw_19 : decode prog_6_method_11_code 19 = .ok (.iconst 0, 1) := by decide +kernel
theorem d_Pe_withdraw_20 : decode prog_6_method_11_code 20 = .ok (.iconst 0, 1) := by decide +kernel
theorem d_Pe_withdraw_21 : decode prog_6_method_11_code 21 = .ok (.iastore, 1) := by decide +kernel
theorem d_Pe_withdraw_22 : decode prog_6_method_11_code 22 = .ok (.aload_n 2, 1) := by decide +kernel
theorem d_Pe_withdraw_23 : decode prog_6_method_11_code 23 = .ok (.invokevirtual 114, 3) := by decide +kernel
theorem d_Pe_withdraw_26 : decode prog_6_method_11_code 26 = .ok (.aload_n 0, 1) := by decide +kernel
theorem d_Pe_withdraw_27 : decode prog_6_method_11_code 27 = .ok (.aload_n 2, 1) := by decide +kernel
theorem d_Pe_withdraw_28 : decode prog_6_method_11_code 28 = .ok (.getfield 111, 3) := by decide +kernel
theorem d_Pe_withdraw_31 : decode prog_6_method_11_code 31 = .ok (.aload_n 2, 1) := by decide +kernel
theorem d_Pe_withdraw_32 : decode prog_6_method_11_code 32 = .ok (.getfield 106, 3) := by decide +kernel
theorem d_Pe_withdraw_35 : decode prog_6_method_11_code 35 = .ok (.invokevirtual 64, 3) := by decide +kernel
theorem d_Pe_withdraw_38 : decode prog_6_method_11_code 38 = .ok (.ireturn, 1) := by decide +kernel
def F_Pe_withdraw (N : Nat → Nat) (v0 : Nat) (x1 : Int32) (v2 : Nat) (σ : rs_Mem) (Q : Int32 → rs_Mem → Prop) : Prop :=
  (vp_in x1 (N (rs_R σ v0 16)) ∧ (vp_in (0 : Int32) (N (rs_R σ (rs_R σ v0 16) x1.toNatClampNeg)) ∧ ((¬ ((rs_I σ (rs_R σ (rs_R σ v0 16) x1.toNatClampNeg) (0 : Int32).toNatClampNeg) = 0) → (vp_in x1 (N (rs_R σ v0 16)) ∧ (vp_in (0 : Int32) (N (rs_R σ (rs_R σ v0 16) x1.toNatClampNeg)) ∧ ∀ σ59 : rs_Mem, σ59 = rs_sI σ (rs_R σ (rs_R σ v0 16) x1.toNatClampNeg) (0 : Int32).toNatClampNeg (0 : Int32) → (F_Le_writeWithdrawal N v2 σ59 (fun σ60 => (F_Pe_send N v0 (rs_R σ60 v2 0) (rs_I σ60 v2 1) σ60 (fun x63 σ62 => ((x63 &&& 1 = x63) ∧ Q x63 σ62)))))))) ∧ ((rs_I σ (rs_R σ (rs_R σ v0 16) x1.toNatClampNeg) (0 : Int32).toNatClampNeg) = 0 → (Q (1 : Int32) σ)))))
abbrev y_Pe_withdraw : MethodName := ({ cls := "RouteSpeaker$Peer", name := "withdraw", desc := "(ILRouteSpeaker$Letter;)Z" } : Jvm.MethodName)
theorem rc_Pe_withdraw : rs_Cal y_Pe_withdraw prog_6_method_11_code 3 (some .boolean) 2 := ⟨tw_508, tw_7, by decide, by decide, by decide +kernel⟩
set_option maxRecDepth 20000 in
theorem J_Pe_withdraw (l : Launch) {G : rs_G} {Bm : Nat} {S : rs_Shp} {v0 : Nat} {x1 : Int32} {v2 : Nat} {σ : rs_Mem} {Q : Int32 → rs_Mem → Prop} (h_v0 : rs_Ok S 6 v0) (h_v2 : rs_Ok S 4 v2) (hF : F_Pe_withdraw S.2.2 v0 x1 v2 σ Q) :
    Met l y_Pe_withdraw (rs_ws y_Pe_withdraw prog_6_method_11_code 3 (some .boolean)) { frames := 2, cells := 0, slots := 0, locals := 46 } (rs_P G Bm S σ [.ref (Bm + v0), .int x1, .ref (Bm + v2)]) (rs_Qi G Bm S Q) 0 0 (rs_A Bm) := by
  refine rs_met (own := "RouteSpeaker$Peer") (by decide) rfl (Nat.le_of_ble_eq_true rfl) (fun p e s m below meth c ls C hl hH hT hS => ?_)
  replace hl : lv_has ls 3 [(0, .ref (Bm + v0)), (1, .int x1), (2, .ref (Bm + v2))] := hl
  have hx := C.1
  have hb := C.2.1
  unfold F_Pe_withdraw at hF
  refine lv_aload_n hx hb d_Pe_withdraw_0 rfl (lv_at hl 0 rfl) ?_
  refine rs_getR C hH hT h_v0 fk_6_16 tw_284 d_Pe_withdraw_1 (fun h51 => ?_)
  refine lv_iload_n hx hb d_Pe_withdraw_4 rfl (lv_at hl 1 rfl) ?_
  obtain ⟨g52, hF⟩ := hF
  refine rs_aald C hH hT h51 ak_26 g52 d_Pe_withdraw_5 (fun h53 => ?_)
  refine lv_iconst hx hb d_Pe_withdraw_6 ki_0 ?_
  obtain ⟨g54, hF⟩ := hF
  refine rs_iald C hH h53 g54 d_Pe_withdraw_7 ?_
  refine lv_if_ne hx hb d_Pe_withdraw_8 (tgt := 13) rfl (fun hc => ?_) (fun hc => ?_)
  · replace hF := hF.1 hc
    refine lv_aload_n hx hb d_Pe_withdraw_13 rfl (lv_at hl 0 rfl) ?_
    refine rs_getR C hH hT h_v0 fk_6_16 tw_284 d_Pe_withdraw_14 (fun h55 => ?_)
    refine lv_iload_n hx hb d_Pe_withdraw_17 rfl (lv_at hl 1 rfl) ?_
    obtain ⟨g56, hF⟩ := hF
    refine rs_aald C hH hT h55 ak_26 g56 d_Pe_withdraw_18 (fun h57 => ?_)
    refine lv_iconst hx hb d_Pe_withdraw_19 ki_0 ?_
    refine lv_iconst hx hb d_Pe_withdraw_20 ki_0 ?_
    obtain ⟨g58, hF⟩ := hF
    refine rs_iast C hH hT hS h57 g58 d_Pe_withdraw_21 (fun σ59 H locs eσ59 hH hT hS => ?_)
    replace hF := hF σ59 eσ59
    refine lv_aload_n hx hb d_Pe_withdraw_22 rfl (lv_at hl 2 rfl) ?_
    refine rs_cv (rs_runV C hH hT hl (J_Le_writeWithdrawal l h_v2 hF) rc_Le_writeWithdrawal tw_509 tw_510 tw_511 h_v2 ⟨rfl, by decide, by decide⟩ rfl ⟨⟨rfl, rfl⟩, by decide, by decide, by decide⟩ (Nat.le_of_ble_eq_true rfl) rfl d_Pe_withdraw_23) hS (fun σ60 H locs hH hT hS hF => ?_)
    refine lv_aload_n hx hb d_Pe_withdraw_26 rfl (lv_at hl 0 rfl) ?_
    refine lv_aload_n hx hb d_Pe_withdraw_27 rfl (lv_at hl 2 rfl) ?_
    refine rs_getR C hH hT h_v2 fk_4_0 tw_173 d_Pe_withdraw_28 (fun h61 => ?_)
    refine lv_aload_n hx hb d_Pe_withdraw_31 rfl (lv_at hl 2 rfl) ?_
    refine rs_getI C hH h_v2 fk_4_1 tw_175 d_Pe_withdraw_32 ?_
    refine rs_ci (rs_runV C hH hT hl (J_Pe_send l h_v0 h61 hF) rc_Pe_send tw_351 tw_353 ts_0 h_v0 ⟨rfl, by decide, by decide⟩ rfl ⟨⟨rfl, rfl⟩, by decide, by decide, by decide⟩ (Nat.le_of_ble_eq_true rfl) rfl d_Pe_withdraw_35) hS (fun x63 σ62 H locs hH hT hS hF => ?_)
    exact rs_zret C hH hT hS hF.1 hF.2 d_Pe_withdraw_38
  · replace hF := hF.2 hc
    refine lv_iconst hx hb d_Pe_withdraw_11 ki_1 ?_
    exact rs_zret C hH hT hS (by decide) hF d_Pe_withdraw_12
/-! RouteSpeaker.tell(III)Z -/
theorem d_Sp_tell_0 : decode prog_1_method_30_code 0 = .ok (.aload_n 0, 1) := by decide +kernel
theorem d_Sp_tell_1 : decode prog_1_method_30_code 1 = .ok (.getfield 18, 3) := by decide +kernel
theorem d_Sp_tell_4 : decode prog_1_method_30_code 4 = .ok (.iload_n 1, 1) := by decide +kernel
theorem d_Sp_tell_5 : decode prog_1_method_30_code 5 = .ok (.aaload, 1) := by decide +kernel
theorem d_Sp_tell_6 : decode prog_1_method_30_code 6 = .ok (.astore 4, 2) := by decide +kernel
theorem d_Sp_tell_8 : decode prog_1_method_30_code 8 = .ok (.aload_n 0, 1) := by decide +kernel
theorem d_Sp_tell_9 : decode prog_1_method_30_code 9 = .ok (.iload_n 1, 1) := by decide +kernel
theorem d_Sp_tell_10 : decode prog_1_method_30_code 10 = .ok (.iload_n 2, 1) := by decide +kernel
theorem d_Sp_tell_11 : decode prog_1_method_30_code 11 = .ok (.iload_n 3, 1) := by decide +kernel
theorem d_Sp_tell_12 : decode prog_1_method_30_code 12 = .ok (.invokevirtual 255, 3) := by decide +kernel
theorem d_Sp_tell_15 : decode prog_1_method_30_code 15 = .ok (.istore 5, 2) := by decide +kernel
theorem d_Sp_tell_17 : decode prog_1_method_30_code 17 = .ok (.iload 5, 2) := by decide +kernel
theorem d_Sp_tell_19 : decode prog_1_method_30_code 19 = .ok (.ifCond .eq (34), 3) := by decide +kernel
theorem d_Sp_tell_22 : decode prog_1_method_30_code 22 = .ok (.aload 4, 2) := by decide +kernel
theorem d_Sp_tell_24 : decode prog_1_method_30_code 24 = .ok (.getfield 74, 3) := by decide +kernel
theorem d_Sp_tell_27 : decode prog_1_method_30_code 27 = .ok (.ifCond .ne (26), 3) := by decide +kernel
theorem d_Sp_tell_30 : decode prog_1_method_30_code 30 = .ok (.aload_n 0, 1) := by decide +kernel
theorem d_Sp_tell_31 : decode prog_1_method_30_code 31 = .ok (.getfield 46, 3) := by decide +kernel
theorem d_Sp_tell_34 : decode prog_1_method_30_code 34 = .ok (.aload_n 0, 1) := by decide +kernel
theorem d_Sp_tell_35 : decode prog_1_method_30_code 35 = .ok (.iload_n 3, 1) := by decide +kernel
theorem d_Sp_tell_36 : decode prog_1_method_30_code 36 = .ok (.iload_n 2, 1) := by decide +kernel
theorem d_Sp_tell_37 : decode prog_1_method_30_code 37 = .ok (.invokevirtual 190, 3) := by decide +kernel
theorem d_Sp_tell_40 : decode prog_1_method_30_code 40 = .ok (.aload 4, 2) := by decide +kernel
theorem d_Sp_tell_42 : decode prog_1_method_30_code 42 = .ok (.getfield 100, 3) := by decide +kernel
theorem d_Sp_tell_45 : decode prog_1_method_30_code 45 = .ok (.invokevirtual 258, 3) := by decide +kernel
theorem d_Sp_tell_48 : decode prog_1_method_30_code 48 = .ok (.istore 5, 2) := by decide +kernel
theorem d_Sp_tell_50 : decode prog_1_method_30_code 50 = .ok (.goto (50), 3) := by decide +kernel
theorem d_Sp_tell_53 : decode prog_1_method_30_code 53 = .ok (.iload 5, 2) := by decide +kernel
theorem d_Sp_tell_55 : decode prog_1_method_30_code 55 = .ok (.ifCond .eq (45), 3) := by decide +kernel
theorem d_Sp_tell_58 : decode prog_1_method_30_code 58 = .ok (.aload_n 0, 1) := by decide +kernel
theorem d_Sp_tell_59 : decode prog_1_method_30_code 59 = .ok (.getfield 46, 3) := by decide +kernel
theorem d_Sp_tell_62 : decode prog_1_method_30_code 62 = .ok (.aload_n 0, 1) := by decide +kernel
theorem d_Sp_tell_63 : decode prog_1_method_30_code 63 = .ok (.iload_n 3, 1) := by decide +kernel
theorem d_Sp_tell_64 : decode prog_1_method_30_code 64 = .ok (.iload_n 2, 1) := by decide +kernel
theorem d_Sp_tell_65 : decode prog_1_method_30_code 65 = .ok (.invokevirtual 190, 3) := by decide +kernel
theorem d_Sp_tell_68 : decode prog_1_method_30_code 68 = .ok (.aload_n 0, 1) := by decide +kernel
theorem d_Sp_tell_69 : decode prog_1_method_30_code 69 = .ok (.iload_n 3, 1) := by decide +kernel
theorem d_Sp_tell_70 : decode prog_1_method_30_code 70 = .ok (.iload_n 2, 1) := by decide +kernel
theorem d_Sp_tell_71 : decode prog_1_method_30_code 71 = .ok (.invokevirtual 187, 3) := by decide +kernel
theorem d_Sp_tell_74 : decode prog_1_method_30_code 74 = .ok (.aload_n 0, 1) := by decide +kernel
theorem d_Sp_tell_75 : decode prog_1_method_30_code 75 = .ok (.iload_n 3, 1) := by decide +kernel
theorem d_Sp_tell_76 : decode prog_1_method_30_code 76 = .ok (.invokevirtual 236, 3) := by decide +kernel
theorem d_Sp_tell_79 : decode prog_1_method_30_code 79 = .ok (.ifCond .eq (15), 3) := by decide +kernel
theorem d_Sp_tell_82 : decode prog_1_method_30_code 82 = .ok (.aload_n 0, 1) := by decide +kernel
theorem d_Sp_tell_83 : decode prog_1_method_30_code 83 = .ok (.getfield 18, 3) := by decide +kernel
theorem d_Sp_tell_86 : decode prog_1_method_30_code 86 = .ok (.iload_n 3, 1) := by decide +kernel
theorem d_Sp_tell_87 : decode prog_1_method_30_code 87 = .ok (.aaload, 1) := by decide +kernel
theorem d_Sp_tell_88 : decode prog_1_method_30_code 88 = .ok (.getfield 174, 3) := by decide +kernel
theorem d_Sp_tell_91 : decode prog_1_method_30_code 91 = .ok (.goto (4), 3) := by decide +kernel
theorem d_Sp_tell_94 : decode prog_1_method_30_code 94 = .ok (.iconst (-1), 1) := by decide +kernel
theorem d_Sp_tell_95 : decode prog_1_method_30_code 95 = .ok (.invokevirtual 262, 3) := by decide +kernel
theorem d_Sp_tell_98 : decode prog_1_method_30_code 98 = .ok (.istore 5, 2) := by decide +kernel
theorem d_Sp_tell_100 : decode prog_1_method_30_code 100 = .ok (.iload 5, 2) := by decide +kernel
theorem d_Sp_tell_102 : decode prog_1_method_30_code 102 = .ok (.ifCond .eq (16), 3) := by decide +kernel
theorem d_Sp_tell_105 : decode prog_1_method_30_code 105 = .ok (.aload 4, 2) := by decide +kernel
theorem d_Sp_tell_107 : decode prog_1_method_30_code 107 = .ok (.iload_n 2, 1) := by decide +kernel
theorem d_Sp_tell_108 : decode prog_1_method_30_code 108 = .ok (.aload_n 0, 1) := by decide +kernel
theorem d_Sp_tell_109 : decode prog_1_method_30_code 109 = .ok (.getfield 46, 3) := by decide +kernel
theorem d_Sp_tell_112 : decode prog_1_method_30_code 112 = .ok (.invokevirtual 266, 3) := by decide +kernel
theorem d_Sp_tell_115 : decode prog_1_method_30_code 115 = .ok (.goto (13), 3) := by decide +kernel
theorem d_Sp_tell_118 : decode prog_1_method_30_code 118 = .ok (.aload 4, 2) := by decide +kernel
theorem d_Sp_tell_120 : decode prog_1_method_30_code 120 = .ok (.iload_n 2, 1) := by decide +kernel
theorem d_Sp_tell_121 : decode prog_1_method_30_code 121 = .ok (.aload_n 0, 1) := by decide +kernel
theorem d_Sp_tell_122 : decode prog_1_method_30_code 122 = .ok (.getfield 46, 3) := by decide +kernel
theorem d_Sp_tell_125 : decode prog_1_method_30_code 125 = .ok (.invokevirtual 270, 3) := by decide +kernel
theorem d_Sp_tell_128 : decode prog_1_method_30_code 128 = .ok (.ireturn, 1) := by decide +kernel
def B_Sp_tell_100 (N : Nat → Nat) (Q : Int32 → rs_Mem → Prop) (v0 : Nat) (x2 : Int32) (v4 : Nat) (x5 : Int32) (σ : rs_Mem) : Prop :=
  ((x5 = 0 → (F_Pe_withdraw N v4 x2 (rs_R σ v0 5) σ (fun x53 σ52 => ((x53 &&& 1 = x53) ∧ Q x53 σ52)))) ∧ (¬ (x5 = 0) → (F_Pe_announce N v4 x2 (rs_R σ v0 5) σ (fun x53 σ52 => ((x53 &&& 1 = x53) ∧ Q x53 σ52)))))
def B_Sp_tell_95 (N : Nat → Nat) (Q : Int32 → rs_Mem → Prop) (v0 : Nat) (x2 : Int32) (v4 : Nat) (w0 : Nat) (w1 : Nat) (y2 : Int32) (y3 : Int32) (σ : rs_Mem) : Prop :=
  (F_Le_writeInward N w0 w1 y2 y3 σ (fun x52 σ51 => (B_Sp_tell_100 N Q v0 x2 v4 x52 σ51)))
def B_Sp_tell_53 (N : Nat → Nat) (Q : Int32 → rs_Mem → Prop) (v0 : Nat) (x2 : Int32) (x3 : Int32) (v4 : Nat) (x5 : Int32) (σ : rs_Mem) : Prop :=
  ((x5 = 0 → (B_Sp_tell_100 N Q v0 x2 v4 x5 σ)) ∧ (¬ (x5 = 0) → (F_Sp_routeOf N v0 x3 x2 σ (fun v53 σ52 => (F_Sp_preferenceOf N v0 x3 x2 σ52 (fun x55 σ54 => (F_Sp_isInternal N v0 x3 σ54 (fun x57 σ56 => ((x57 = 0 → (B_Sp_tell_95 N Q v0 x2 v4 (rs_R σ v0 5) v53 x55 (-1 : Int32) σ56)) ∧ (¬ (x57 = 0) → (vp_in x3 (N (rs_R σ56 v0 1)) ∧ (B_Sp_tell_95 N Q v0 x2 v4 (rs_R σ v0 5) v53 x55 (rs_I σ56 (rs_R σ56 (rs_R σ56 v0 1) x3.toNatClampNeg) 10) σ56))))))))))))
def F_Sp_tell (N : Nat → Nat) (v0 : Nat) (x1 : Int32) (x2 : Int32) (x3 : Int32) (σ : rs_Mem) (Q : Int32 → rs_Mem → Prop) : Prop :=
  (vp_in x1 (N (rs_R σ v0 1)) ∧ (∀ v54 : Nat, v54 = (rs_R σ (rs_R σ v0 1) x1.toNatClampNeg) → (F_Sp_isMeantFor N v0 x1 x2 x3 σ (fun x56 σ55 => ((x56 = 0 → (B_Sp_tell_53 N Q v0 x2 x3 v54 x56 σ55)) ∧ (¬ (x56 = 0) → ((¬ ((rs_I σ55 v54 0) = 0) → (B_Sp_tell_53 N Q v0 x2 x3 v54 x56 σ55)) ∧ ((rs_I σ55 v54 0) = 0 → (F_Sp_routeOf N v0 x3 x2 σ55 (fun v59 σ58 => (F_Le_writeOutward N (rs_R σ55 v0 5) v59 (rs_I σ58 v54 2) σ58 (fun x61 σ60 => (B_Sp_tell_100 N Q v0 x2 v54 x61 σ60)))))))))))))
set_option maxRecDepth 20000 in
theorem JB_Sp_tell_100 {p : Program} {l : Launch} {e : Env} {s : State} {m : MethodId} {args : Array Value} {below : List Frame} {meth : Method} {c : Code} {G : rs_G} {Bm : Nat} {S : rs_Shp} {Q : Int32 → rs_Mem → Prop} (C : rs_C "RouteSpeaker" prog_1_method_30_code 6 (some .boolean) G p s m meth c args) (v0 : Nat) (x2 : Int32) (v4 : Nat) (x5 : Int32) (σ : rs_Mem) (H : Heap) (locs : List Loc) (ls : Array Slot) (h_v0 : rs_Ok S 1 v0) (h_v4 : rs_Ok S 6 v4) (hH : rs_H G Bm S σ H) (hT : rs_T S σ) (hS : va_S (rs_A Bm) s.heap H locs) (hl : lv_has ls 6 [(0, .ref (Bm + v0)), (2, .int x2), (4, .ref (Bm + v4)), (5, .int x5)]) (hF : B_Sp_tell_100 S.2.2 Q v0 x2 v4 x5 σ) :
    W p l e { frames := 3, cells := 0, slots := 0, locals := 71 } s m args below meth c H locs 0 0 (MQ below (rs_Qi G Bm S Q) args s 0 0 (rs_A Bm)) (F0 m 100 ls []) := by
  have hx := C.1
  have hb := C.2.1
  unfold B_Sp_tell_100 at hF
  refine lv_iload hx hb d_Sp_tell_100 (lv_at hl 3 rfl) ?_
  refine lv_if_eq hx hb d_Sp_tell_102 (tgt := 118) rfl (fun hc => ?_) (fun hc => ?_)
  · replace hF := hF.1 hc
    refine lv_aload hx hb d_Sp_tell_118 (lv_at hl 2 rfl) ?_
    refine lv_iload_n hx hb d_Sp_tell_120 rfl (lv_at hl 1 rfl) ?_
    refine lv_aload_n hx hb d_Sp_tell_121 rfl (lv_at hl 0 rfl) ?_
    refine rs_getR C hH hT h_v0 fk_1_5 tw_325 d_Sp_tell_122 (fun h51 => ?_)
    refine rs_ci (rs_runV C hH hT hl (J_Pe_withdraw l h_v4 h51 hF) rc_Pe_withdraw tw_505 tw_506 tw_507 h_v4 ⟨rfl, by decide, by decide⟩ rfl ⟨⟨rfl, rfl⟩, by decide, by decide, by decide⟩ (Nat.le_of_ble_eq_true rfl) rfl d_Sp_tell_125) hS (fun x53 σ52 H locs hH hT hS hF => ?_)
    exact rs_zret C hH hT hS hF.1 hF.2 d_Sp_tell_128
  · replace hF := hF.2 hc
    refine lv_aload hx hb d_Sp_tell_105 (lv_at hl 2 rfl) ?_
    refine lv_iload_n hx hb d_Sp_tell_107 rfl (lv_at hl 1 rfl) ?_
    refine lv_aload_n hx hb d_Sp_tell_108 rfl (lv_at hl 0 rfl) ?_
    refine rs_getR C hH hT h_v0 fk_1_5 tw_325 d_Sp_tell_109 (fun h51 => ?_)
    refine rs_ci (rs_runV C hH hT hl (J_Pe_announce l h_v4 h51 hF) rc_Pe_announce tw_497 tw_498 tw_499 h_v4 ⟨rfl, by decide, by decide⟩ rfl ⟨⟨rfl, rfl⟩, by decide, by decide, by decide⟩ (Nat.le_of_ble_eq_true rfl) rfl d_Sp_tell_112) hS (fun x53 σ52 H locs hH hT hS hF => ?_)
    refine lv_goto hx hb d_Sp_tell_115 (tgt := 128) rfl ?_
    exact rs_zret C hH hT hS hF.1 hF.2 d_Sp_tell_128
set_option maxRecDepth 20000 in
theorem JB_Sp_tell_95 {p : Program} {l : Launch} {e : Env} {s : State} {m : MethodId} {args : Array Value} {below : List Frame} {meth : Method} {c : Code} {G : rs_G} {Bm : Nat} {S : rs_Shp} {Q : Int32 → rs_Mem → Prop} (C : rs_C "RouteSpeaker" prog_1_method_30_code 6 (some .boolean) G p s m meth c args) (v0 : Nat) (x2 : Int32) (v4 : Nat) (w0 : Nat) (w1 : Nat) (y2 : Int32) (y3 : Int32) (σ : rs_Mem) (H : Heap) (locs : List Loc) (ls : Array Slot) (h_v0 : rs_Ok S 1 v0) (h_v4 : rs_Ok S 6 v4) (h_w0 : rs_Ok S 4 w0) (h_w1 : rs_Ok S 8 w1) (hH : rs_H G Bm S σ H) (hT : rs_T S σ) (hS : va_S (rs_A Bm) s.heap H locs) (hl : lv_has ls 6 [(0, .ref (Bm + v0)), (2, .int x2), (4, .ref (Bm + v4))]) (hF : B_Sp_tell_95 S.2.2 Q v0 x2 v4 w0 w1 y2 y3 σ) :
    W p l e { frames := 3, cells := 0, slots := 0, locals := 71 } s m args below meth c H locs 0 0 (MQ below (rs_Qi G Bm S Q) args s 0 0 (rs_A Bm)) (F0 m 95 ls [.int y3, .int y2, .ref (Bm + w1), .ref (Bm + w0)]) := by
  have hx := C.1
  have hb := C.2.1
  unfold B_Sp_tell_95 at hF
  refine rs_ci (rs_runV C hH hT hl (J_Le_writeInward l h_w0 h_w1 hF) rc_Le_writeInward tw_492 tw_493 tw_494 h_w0 ⟨rfl, by decide, by decide⟩ rfl ⟨⟨rfl, rfl⟩, by decide, by decide, by decide⟩ (Nat.le_of_ble_eq_true rfl) rfl d_Sp_tell_95) hS (fun x52 σ51 H locs hH hT hS hF => ?_)
  refine lv_istore hx hb d_Sp_tell_98 hl (by decide) (lv' := [(5, .int x52), (0, .ref (Bm + v0)), (2, .int x2), (4, .ref (Bm + v4))]) rfl (fun ls hl => ?_)
  exact JB_Sp_tell_100 C v0 x2 v4 x52 σ51 _ _ _ h_v0 h_v4 hH hT hS (lv_sub hl [1, 2, 3, 0] rfl) hF
set_option maxRecDepth 20000 in
theorem JB_Sp_tell_53 {p : Program} {l : Launch} {e : Env} {s : State} {m : MethodId} {args : Array Value} {below : List Frame} {meth : Method} {c : Code} {G : rs_G} {Bm : Nat} {S : rs_Shp} {Q : Int32 → rs_Mem → Prop} (C : rs_C "RouteSpeaker" prog_1_method_30_code 6 (some .boolean) G p s m meth c args) (v0 : Nat) (x2 : Int32) (x3 : Int32) (v4 : Nat) (x5 : Int32) (σ : rs_Mem) (H : Heap) (locs : List Loc) (ls : Array Slot) (h_v0 : rs_Ok S 1 v0) (h_v4 : rs_Ok S 6 v4) (hH : rs_H G Bm S σ H) (hT : rs_T S σ) (hS : va_S (rs_A Bm) s.heap H locs) (hl : lv_has ls 6 [(0, .ref (Bm + v0)), (2, .int x2), (3, .int x3), (4, .ref (Bm + v4)), (5, .int x5)]) (hF : B_Sp_tell_53 S.2.2 Q v0 x2 x3 v4 x5 σ) :
    W p l e { frames := 3, cells := 0, slots := 0, locals := 71 } s m args below meth c H locs 0 0 (MQ below (rs_Qi G Bm S Q) args s 0 0 (rs_A Bm)) (F0 m 53 ls []) := by
  have hx := C.1
  have hb := C.2.1
  unfold B_Sp_tell_53 at hF
  refine lv_iload hx hb d_Sp_tell_53 (lv_at hl 4 rfl) ?_
  refine lv_if_eq hx hb d_Sp_tell_55 (tgt := 100) rfl (fun hc => ?_) (fun hc => ?_)
  · replace hF := hF.1 hc
    exact JB_Sp_tell_100 C v0 x2 v4 x5 σ _ _ _ h_v0 h_v4 hH hT hS (lv_sub hl [0, 1, 3, 4] rfl) hF
  · replace hF := hF.2 hc
    refine lv_aload_n hx hb d_Sp_tell_58 rfl (lv_at hl 0 rfl) ?_
    refine rs_getR C hH hT h_v0 fk_1_5 tw_325 d_Sp_tell_59 (fun h51 => ?_)
    refine lv_aload_n hx hb d_Sp_tell_62 rfl (lv_at hl 0 rfl) ?_
    refine lv_iload_n hx hb d_Sp_tell_63 rfl (lv_at hl 2 rfl) ?_
    refine lv_iload_n hx hb d_Sp_tell_64 rfl (lv_at hl 1 rfl) ?_
    refine rs_cr (rs_runV C hH hT hl (J_Sp_routeOf l h_v0 hF) rc_Sp_routeOf tw_415 tw_417 ts_8 h_v0 ⟨rfl, by decide, by decide⟩ rfl ⟨⟨rfl, rfl⟩, by decide, by decide, by decide⟩ (Nat.le_of_ble_eq_true rfl) rfl d_Sp_tell_65) hS (fun v53 σ52 H locs h_v53 hH hT hS hF => ?_)
    refine lv_aload_n hx hb d_Sp_tell_68 rfl (lv_at hl 0 rfl) ?_
    refine lv_iload_n hx hb d_Sp_tell_69 rfl (lv_at hl 2 rfl) ?_
    refine lv_iload_n hx hb d_Sp_tell_70 rfl (lv_at hl 1 rfl) ?_
    refine rs_ci (rs_runV C hH hT hl (J_Sp_preferenceOf l h_v0 hF) rc_Sp_preferenceOf tw_411 tw_413 ts_7 h_v0 ⟨rfl, by decide, by decide⟩ rfl ⟨⟨rfl, rfl⟩, by decide, by decide, by decide⟩ (Nat.le_of_ble_eq_true rfl) rfl d_Sp_tell_71) hS (fun x55 σ54 H locs hH hT hS hF => ?_)
    refine lv_aload_n hx hb d_Sp_tell_74 rfl (lv_at hl 0 rfl) ?_
    refine lv_iload_n hx hb d_Sp_tell_75 rfl (lv_at hl 2 rfl) ?_
    refine rs_ci (rs_runV C hH hT hl (J_Sp_isInternal l h_v0 hF) rc_Sp_isInternal tw_419 tw_421 ts_9 h_v0 ⟨rfl, by decide, by decide⟩ rfl ⟨⟨rfl, rfl⟩, by decide, by decide, by decide⟩ (Nat.le_of_ble_eq_true rfl) rfl d_Sp_tell_76) hS (fun x57 σ56 H locs hH hT hS hF => ?_)
    refine lv_if_eq hx hb d_Sp_tell_79 (tgt := 94) rfl (fun hc => ?_) (fun hc => ?_)
    · replace hF := hF.1 hc
      refine lv_iconst hx hb d_Sp_tell_94 ki_m1 ?_
      exact JB_Sp_tell_95 C v0 x2 v4 (rs_R σ v0 5) v53 x55 (-1 : Int32) σ56 _ _ _ h_v0 h_v4 h51 h_v53 hH hT hS (lv_sub hl [0, 1, 3] rfl) hF
    · replace hF := hF.2 hc
      refine lv_aload_n hx hb d_Sp_tell_82 rfl (lv_at hl 0 rfl) ?_
      refine rs_getR C hH hT h_v0 fk_1_1 tw_321 d_Sp_tell_83 (fun h58 => ?_)
      refine lv_iload_n hx hb d_Sp_tell_86 rfl (lv_at hl 2 rfl) ?_
      obtain ⟨g59, hF⟩ := hF
      refine rs_aald C hH hT h58 ak_24 g59 d_Sp_tell_87 (fun h60 => ?_)
      refine rs_getI C hH h60 fk_6_10 tw_274 d_Sp_tell_88 ?_
      refine lv_goto hx hb d_Sp_tell_91 (tgt := 95) rfl ?_
      exact JB_Sp_tell_95 C v0 x2 v4 (rs_R σ v0 5) v53 x55 (rs_I σ56 (rs_R σ56 (rs_R σ56 v0 1) x3.toNatClampNeg) 10) σ56 _ _ _ h_v0 h_v4 h51 h_v53 hH hT hS (lv_sub hl [0, 1, 3] rfl) hF
abbrev y_Sp_tell : MethodName := ({ cls := "RouteSpeaker", name := "tell", desc := "(III)Z" } : Jvm.MethodName)
theorem rc_Sp_tell : rs_Cal y_Sp_tell prog_1_method_30_code 6 (some .boolean) 3 := ⟨tw_458, tw_1, by decide, by decide, by decide +kernel⟩
set_option maxRecDepth 20000 in
theorem J_Sp_tell (l : Launch) {G : rs_G} {Bm : Nat} {S : rs_Shp} {v0 : Nat} {x1 : Int32} {x2 : Int32} {x3 : Int32} {σ : rs_Mem} {Q : Int32 → rs_Mem → Prop} (h_v0 : rs_Ok S 1 v0) (hF : F_Sp_tell S.2.2 v0 x1 x2 x3 σ Q) :
    Met l y_Sp_tell (rs_ws y_Sp_tell prog_1_method_30_code 6 (some .boolean)) { frames := 3, cells := 0, slots := 0, locals := 71 } (rs_P G Bm S σ [.ref (Bm + v0), .int x1, .int x2, .int x3]) (rs_Qi G Bm S Q) 0 0 (rs_A Bm) := by
  refine rs_met (own := "RouteSpeaker") (by decide) rfl (Nat.le_of_ble_eq_true rfl) (fun p e s m below meth c ls C hl hH hT hS => ?_)
  replace hl : lv_has ls 6 [(0, .ref (Bm + v0)), (1, .int x1), (2, .int x2), (3, .int x3)] := hl
  have hx := C.1
  have hb := C.2.1
  unfold F_Sp_tell at hF
  refine lv_aload_n hx hb d_Sp_tell_0 rfl (lv_at hl 0 rfl) ?_
  refine rs_getR C hH hT h_v0 fk_1_1 tw_321 d_Sp_tell_1 (fun h51 => ?_)
  refine lv_iload_n hx hb d_Sp_tell_4 rfl (lv_at hl 1 rfl) ?_
  obtain ⟨g52, hF⟩ := hF
  refine rs_aald C hH hT h51 ak_24 g52 d_Sp_tell_5 (fun h53 => ?_)
  refine rs_topr (fun v54 ev54 => ?_)
  replace hF := hF v54 ev54
  have h_v54 : rs_Ok S 6 v54 := by rw [ev54]; exact h53
  refine lv_astore hx hb d_Sp_tell_6 hl (by decide) (lv' := [(4, .ref (Bm + v54)), (0, .ref (Bm + v0)), (1, .int x1), (2, .int x2), (3, .int x3)]) rfl (fun ls hl => ?_)
  refine lv_aload_n hx hb d_Sp_tell_8 rfl (lv_at hl 1 rfl) ?_
  refine lv_iload_n hx hb d_Sp_tell_9 rfl (lv_at hl 2 rfl) ?_
  refine lv_iload_n hx hb d_Sp_tell_10 rfl (lv_at hl 3 rfl) ?_
  refine lv_iload_n hx hb d_Sp_tell_11 rfl (lv_at hl 4 rfl) ?_
  refine rs_ci (rs_runV C hH hT hl (J_Sp_isMeantFor l h_v0 hF) rc_Sp_isMeantFor tw_459 tw_461 ts_13 h_v0 ⟨rfl, by decide, by decide⟩ rfl ⟨⟨rfl, rfl⟩, by decide, by decide, by decide⟩ (Nat.le_of_ble_eq_true rfl) rfl d_Sp_tell_12) hS (fun x56 σ55 H locs hH hT hS hF => ?_)
  refine lv_istore hx hb d_Sp_tell_15 hl (by decide) (lv' := [(5, .int x56), (4, .ref (Bm + v54)), (0, .ref (Bm + v0)), (1, .int x1), (2, .int x2), (3, .int x3)]) rfl (fun ls hl => ?_)
  refine lv_iload hx hb d_Sp_tell_17 (lv_at hl 0 rfl) ?_
  refine lv_if_eq hx hb d_Sp_tell_19 (tgt := 53) rfl (fun hc => ?_) (fun hc => ?_)
  · replace hF := hF.1 hc
    exact JB_Sp_tell_53 C v0 x2 x3 v54 x56 σ55 _ _ _ h_v0 h_v54 hH hT hS (lv_sub hl [2, 4, 5, 1, 0] rfl) hF
  · replace hF := hF.2 hc
    refine lv_aload hx hb d_Sp_tell_22 (lv_at hl 1 rfl) ?_
    refine rs_getI C hH h_v54 fk_6_0 tw_255 d_Sp_tell_24 ?_
    refine lv_if_ne hx hb d_Sp_tell_27 (tgt := 53) rfl (fun hc => ?_) (fun hc => ?_)
    · replace hF := hF.1 hc
      exact JB_Sp_tell_53 C v0 x2 x3 v54 x56 σ55 _ _ _ h_v0 h_v54 hH hT hS (lv_sub hl [2, 4, 5, 1, 0] rfl) hF
    · replace hF := hF.2 hc
      refine lv_aload_n hx hb d_Sp_tell_30 rfl (lv_at hl 2 rfl) ?_
      refine rs_getR C hH hT h_v0 fk_1_5 tw_325 d_Sp_tell_31 (fun h57 => ?_)
      refine lv_aload_n hx hb d_Sp_tell_34 rfl (lv_at hl 2 rfl) ?_
      refine lv_iload_n hx hb d_Sp_tell_35 rfl (lv_at hl 5 rfl) ?_
      refine lv_iload_n hx hb d_Sp_tell_36 rfl (lv_at hl 4 rfl) ?_
      refine rs_cr (rs_runV C hH hT hl (J_Sp_routeOf l h_v0 hF) rc_Sp_routeOf tw_415 tw_417 ts_8 h_v0 ⟨rfl, by decide, by decide⟩ rfl ⟨⟨rfl, rfl⟩, by decide, by decide, by decide⟩ (Nat.le_of_ble_eq_true rfl) rfl d_Sp_tell_37) hS (fun v59 σ58 H locs h_v59 hH hT hS hF => ?_)
      refine lv_aload hx hb d_Sp_tell_40 (lv_at hl 1 rfl) ?_
      refine rs_getI C hH h_v54 fk_6_2 tw_259 d_Sp_tell_42 ?_
      refine rs_ci (rs_runV C hH hT hl (J_Le_writeOutward l h57 h_v59 hF) rc_Le_writeOutward tw_468 tw_469 tw_470 h57 ⟨rfl, by decide, by decide⟩ rfl ⟨⟨rfl, rfl⟩, by decide, by decide, by decide⟩ (Nat.le_of_ble_eq_true rfl) rfl d_Sp_tell_45) hS (fun x61 σ60 H locs hH hT hS hF => ?_)
      refine lv_istore hx hb d_Sp_tell_48 hl (by decide) (lv' := [(5, .int x61), (4, .ref (Bm + v54)), (0, .ref (Bm + v0)), (1, .int x1), (2, .int x2), (3, .int x3)]) rfl (fun ls hl => ?_)
      refine lv_goto hx hb d_Sp_tell_50 (tgt := 100) rfl ?_
      exact JB_Sp_tell_100 C v0 x2 v54 x61 σ60 _ _ _ h_v0 h_v54 hH hT hS (lv_sub hl [2, 4, 1, 0] rfl) hF
/-! RouteSpeaker.tellRound()Z -/
theorem d_Sp_tellRound_0 : decode prog_1_method_29_code 0 = .ok (.iconst 0, 1) := by decide +kernel
theorem d_Sp_tellRound_1 : decode prog_1_method_29_code 1 = .ok (.istore_n 1, 1) := by decide +kernel
theorem d_Sp_tellRound_2 : decode prog_1_method_29_code 2 = .ok (.iload_n 1, 1) := by decide +kernel
theorem d_Sp_tellRound_3 : decode prog_1_method_29_code 3 = .ok (.aload_n 0, 1) := by decide +kernel
theorem d_Sp_tellRound_4 : decode prog_1_method_29_code 4 = .ok (.getfield 10, 3) := by decide +kernel
theorem d_Sp_tellRound_7 : decode prog_1_method_29_code 7 = .ok (.getfield 207, 3) := by decide +kernel
theorem d_Sp_tellRound_10 : decode prog_1_method_29_code 10 = .ok (.if_icmp .ge (77), 3) := by decide +kernel
theorem d_Sp_tellRound_13 : decode prog_1_method_29_code 13 = .ok (.aload_n 0, 1) := by decide +kernel
theorem d_Sp_tellRound_14 : decode prog_1_method_29_code 14 = .ok (.iload_n 1, 1) := by decide +kernel
theorem d_Sp_tellRound_15 : decode prog_1_method_29_code 15 = .ok (.invokevirtual 183, 3) := by decide +kernel
theorem d_Sp_tellRound_18 : decode prog_1_method_29_code 18 = .ok (.istore_n 2, 1) := by decide +kernel
theorem d_Sp_tellRound_19 : decode prog_1_method_29_code 19 = .ok (.aload_n 0, 1) := by decide +kernel
theorem d_Sp_tellRound_20 : decode prog_1_method_29_code 20 = .ok (.getfield 46, 3) := by decide +kernel
theorem d_Sp_tellRound_23 : decode prog_1_method_29_code 23 = .ok (.aload_n 0, 1) := by decide +kernel
theorem d_Sp_tellRound_24 : decode prog_1_method_29_code 24 = .ok (.getfield 10, 3) := by decide +kernel
theorem d_Sp_tellRound_27 : decode prog_1_method_29_code 27 = .ok (.getfield 208, 3) := by decide +kernel
theorem d_Sp_tellRound_30 : decode prog_1_method_29_code 30 = .ok (.iload_n 1, 1) := by decide +kernel
theorem d_Sp_tellRound_31 : decode prog_1_method_29_code 31 = .ok (.iaload, 1) := by decide +kernel
theorem d_Sp_tellRound_32 : decode prog_1_method_29_code 32 = .ok (.aload_n 0, 1) := by decide +kernel
theorem d_Sp_tellRound_33 : decode prog_1_method_29_code 33 = .ok (.getfield 10, 3) := by decide +kernel
theorem d_Sp_tellRound_36 : decode prog_1_method_29_code 36 = .ok (.getfield 212, 3) := by decide +kernel
theorem d_Sp_tellRound_39 : decode prog_1_method_29_code 39 = .ok (.iload_n 1, 1) := by decide +kernel
theorem d_Sp_tellRound_40 : decode prog_1_method_29_code 40 = .ok (.iaload, 1) := by decide +kernel
theorem d_Sp_tellRound_41 : decode prog_1_method_29_code 41 = .ok (.invokevirtual 249, 3) := by decide +kernel
theorem d_Sp_tellRound_44 : decode prog_1_method_29_code 44 = .ok (.iconst 0, 1) := by decide +kernel
theorem d_Sp_tellRound_45 : decode prog_1_method_29_code 45 = .ok (.istore_n 3, 1) := by decide +kernel
theorem d_Sp_tellRound_46 : decode prog_1_method_29_code 46 = .ok (.iload_n 3, 1) := by decide +kernel
theorem d_Sp_tellRound_47 : decode prog_1_method_29_code 47 = .ok (.iconst 4, 1) := by decide +kernel
theorem d_Sp_tellRound_48 : decode prog_1_method_29_code 48 = .ok (.if_icmp .ge (33), 3) := by decide +kernel
theorem d_Sp_tellRound_51 : decode prog_1_method_29_code 51 = .ok (.aload_n 0, 1) := by decide +kernel
theorem d_Sp_tellRound_52 : decode prog_1_method_29_code 52 = .ok (.getfield 18, 3) := by decide +kernel
theorem d_Sp_tellRound_55 : decode prog_1_method_29_code 55 = .ok (.iload_n 3, 1) := by decide +kernel
theorem d_Sp_tellRound_56 : decode prog_1_method_29_code 56 = .ok (.aaload, 1) := by decide +kernel
theorem d_Sp_tellRound_57 : decode prog_1_method_29_code 57 = .ok (.invokevirtual 159, 3) := by decide +kernel
theorem d_Sp_tellRound_60 : decode prog_1_method_29_code 60 = .ok (.ifCond .eq (15), 3) := by decide +kernel
theorem d_Sp_tellRound_63 : decode prog_1_method_29_code 63 = .ok (.aload_n 0, 1) := by decide +kernel
theorem d_Sp_tellRound_64 : decode prog_1_method_29_code 64 = .ok (.iload_n 3, 1) := by decide +kernel
theorem d_Sp_tellRound_65 : decode prog_1_method_29_code 65 = .ok (.iload_n 1, 1) := by decide +kernel
theorem d_Sp_tellRound_66 : decode prog_1_method_29_code 66 = .ok (.iload_n 2, 1) := by decide +kernel
theorem d_Sp_tellRound_67 : decode prog_1_method_29_code 67 = .ok (.invokevirtual 252, 3) := by decide +kernel
theorem d_Sp_tellRound_70 : decode prog_1_method_29_code 70 = .ok (.ifCond .ne (5), 3) := by decide +kernel
theorem d_Sp_tellRound_73 : decode prog_1_method_29_code 73 = .ok (.iconst 0, 1) := by decide +kernel
theorem d_Sp_tellRound_74 : decode prog_1_method_29_code 74 = .ok (.ireturn, 1) := by decide +kernel
theorem d_Sp_tellRound_75 : decode prog_1_method_29_code 75 = .ok (.iinc 3 (1), 3) := by decide +kernel
theorem d_Sp_tellRound_78 : decode prog_1_method_29_code 78 = .ok (.goto (-32), 3) := by decide +kernel
theorem d_Sp_tellRound_81 : decode prog_1_method_29_code 81 = .ok (.iinc 1 (1), 3) := by decide +kernel
theorem d_Sp_tellRound_84 : decode prog_1_method_29_code 84 = .ok (.goto (-82), 3) := by decide +kernel
theorem d_Sp_tellRound_87 : decode prog_1_method_29_code 87 = .ok (.iconst 1, 1) := by decide +kernel
theorem d_Sp_tellRound_88 : decode prog_1_method_29_code 88 = .ok (.ireturn, 1) := by decide +kernel
def G_Sp_tellRound_46 (N : Nat → Nat) (K2 : Nat → Int32 → rs_Mem → Prop) (Q : Int32 → rs_Mem → Prop) (K46 : Nat → Int32 → Int32 → Int32 → rs_Mem → Prop) (v0 : Nat) (x1 : Int32) (x2 : Int32) (x3 : Int32) (σ : rs_Mem) : Prop :=
  (((4 : Int32) ≤ x3 → (∀ x51 : Int32, x51 = x1 + (1 : Int32) → (K2 v0 x51 σ))) ∧ (¬ ((4 : Int32) ≤ x3) → (vp_in x3 (N (rs_R σ v0 1)) ∧ (F_Pe_isUp N (rs_R σ (rs_R σ v0 1) x3.toNatClampNeg) σ (fun x55 σ54 => ((x55 = 0 → (∀ x56 : Int32, x56 = x3 + (1 : Int32) → (K46 v0 x1 x2 x56 σ54))) ∧ (¬ (x55 = 0) → (F_Sp_tell N v0 x3 x1 x2 σ54 (fun x57 σ56 => ((¬ (x57 = 0) → (∀ x58 : Int32, x58 = x3 + (1 : Int32) → (K46 v0 x1 x2 x58 σ56))) ∧ (x57 = 0 → (Q (0 : Int32) σ56))))))))))))
noncomputable def L_Sp_tellRound_46 (N : Nat → Nat) (K2 : Nat → Int32 → rs_Mem → Prop) (Q : Int32 → rs_Mem → Prop) (n : Nat) : Nat → Int32 → Int32 → Int32 → rs_Mem → Prop := Nat.rec (motive := fun _ => Nat → Int32 → Int32 → Int32 → rs_Mem → Prop) (fun _ _ _ _ _ => False) (fun _ K => G_Sp_tellRound_46 N K2 Q K) n
def G_Sp_tellRound_2 (N : Nat → Nat) (Q : Int32 → rs_Mem → Prop) (K2 : Nat → Int32 → rs_Mem → Prop) (v0 : Nat) (x1 : Int32) (σ : rs_Mem) : Prop :=
  (((rs_I σ (rs_R σ v0 0) 3) ≤ x1 → (Q (1 : Int32) σ)) ∧ (¬ ((rs_I σ (rs_R σ v0 0) 3) ≤ x1) → (F_Sp_chooseFor N v0 x1 σ (fun x53 σ52 => (vp_in x1 (N (rs_R σ52 (rs_R σ52 v0 0) 0)) ∧ (vp_in x1 (N (rs_R σ52 (rs_R σ52 v0 0) 1)) ∧ (F_Le_setPrefix N (rs_R σ52 v0 5) (rs_I σ52 (rs_R σ52 (rs_R σ52 v0 0) 0) x1.toNatClampNeg) (rs_I σ52 (rs_R σ52 (rs_R σ52 v0 0) 1) x1.toNatClampNeg) σ52 (fun σ61 => (∃ n : Nat, L_Sp_tellRound_46 N K2 Q n v0 x1 x53 (0 : Int32) σ61)))))))))
noncomputable def L_Sp_tellRound_2 (N : Nat → Nat) (Q : Int32 → rs_Mem → Prop) (n : Nat) : Nat → Int32 → rs_Mem → Prop := Nat.rec (motive := fun _ => Nat → Int32 → rs_Mem → Prop) (fun _ _ _ => False) (fun _ K => G_Sp_tellRound_2 N Q K) n
def F_Sp_tellRound (N : Nat → Nat) (v0 : Nat) (σ : rs_Mem) (Q : Int32 → rs_Mem → Prop) : Prop :=
  (∃ n : Nat, L_Sp_tellRound_2 N Q n v0 (0 : Int32) σ)
set_option maxRecDepth 20000 in
theorem JL_Sp_tellRound_46 {p : Program} {l : Launch} {e : Env} {s : State} {m : MethodId} {args : Array Value} {below : List Frame} {meth : Method} {c : Code} {G : rs_G} {Bm : Nat} {S : rs_Shp} {K2 : Nat → Int32 → rs_Mem → Prop} {Q : Int32 → rs_Mem → Prop} (C : rs_C "RouteSpeaker" prog_1_method_29_code 4 (some .boolean) G p s m meth c args) (hK2 : ∀ (v0 : Nat) (x1 : Int32) (σ : rs_Mem) (H : Heap) (locs : List Loc) (ls : Array Slot), rs_Ok S 1 v0 → rs_H G Bm S σ H → rs_T S σ → va_S (rs_A Bm) s.heap H locs → lv_has ls 4 [(0, .ref (Bm + v0)), (1, .int x1)] → K2 v0 x1 σ → W p l e { frames := 4, cells := 0, slots := 0, locals := 96 } s m args below meth c H locs 0 0 (MQ below (rs_Qi G Bm S Q) args s 0 0 (rs_A Bm)) (F0 m 2 ls [])) : ∀ n : Nat, ∀ (v0 : Nat) (x1 : Int32) (x2 : Int32) (x3 : Int32) (σ : rs_Mem) (H : Heap) (locs : List Loc) (ls : Array Slot), rs_Ok S 1 v0 → rs_H G Bm S σ H → rs_T S σ → va_S (rs_A Bm) s.heap H locs → lv_has ls 4 [(0, .ref (Bm + v0)), (1, .int x1), (2, .int x2), (3, .int x3)] → (L_Sp_tellRound_46 S.2.2 K2 Q n) v0 x1 x2 x3 σ → W p l e { frames := 4, cells := 0, slots := 0, locals := 96 } s m args below meth c H locs 0 0 (MQ below (rs_Qi G Bm S Q) args s 0 0 (rs_A Bm)) (F0 m 46 ls []) := by
  have hx := C.1
  have hb := C.2.1
  intro n
  induction n with
  | zero => intros; rename_i hF; exact hF.elim
  | succ n hK46 =>
    intro v0 x1 x2 x3 σ H locs ls h_v0 hH hT hS hl hF
    replace hF : G_Sp_tellRound_46 S.2.2 K2 Q (L_Sp_tellRound_46 S.2.2 K2 Q n) v0 x1 x2 x3 σ := hF
    unfold G_Sp_tellRound_46 at hF
    refine lv_iload_n hx hb d_Sp_tellRound_46 rfl (lv_at hl 3 rfl) ?_
    refine lv_iconst hx hb d_Sp_tellRound_47 ki_4 ?_
    refine lv_icmp_ge hx hb d_Sp_tellRound_48 (tgt := 81) rfl (fun hc => ?_) (fun hc => ?_)
    · replace hF := hF.1 hc
      obtain ⟨x51, ex51⟩ : ∃ z : Int32, z = x1 + (1 : Int32) := ⟨_, rfl⟩
      replace hF := hF x51 ex51
      refine lv_iinc hx hb d_Sp_tellRound_81 hl (k := 1) rfl (v := x51) (by rw [ki_1, ex51]) (by decide) (lv' := [(1, .int x51), (0, .ref (Bm + v0)), (2, .int x2), (3, .int x3)]) rfl (fun ls hl => ?_)
      refine lv_goto hx hb d_Sp_tellRound_84 (tgt := 2) rfl ?_
      exact hK2 v0 x51 σ _ _ _ h_v0 hH hT hS (lv_sub hl [1, 0] rfl) hF
    · replace hF := hF.2 hc
      refine lv_aload_n hx hb d_Sp_tellRound_51 rfl (lv_at hl 0 rfl) ?_
      refine rs_getR C hH hT h_v0 fk_1_1 tw_321 d_Sp_tellRound_52 (fun h51 => ?_)
      refine lv_iload_n hx hb d_Sp_tellRound_55 rfl (lv_at hl 3 rfl) ?_
      obtain ⟨g52, hF⟩ := hF
      refine rs_aald C hH hT h51 ak_24 g52 d_Sp_tellRound_56 (fun h53 => ?_)
      refine rs_ci (rs_runV C hH hT hl (J_Pe_isUp l h53 hF) rc_Pe_isUp tw_451 tw_452 tw_453 h53 ⟨rfl, by decide, by decide⟩ rfl ⟨⟨rfl, rfl⟩, by decide, by decide, by decide⟩ (Nat.le_of_ble_eq_true rfl) rfl d_Sp_tellRound_57) hS (fun x55 σ54 H locs hH hT hS hF => ?_)
      refine lv_if_eq hx hb d_Sp_tellRound_60 (tgt := 75) rfl (fun hc => ?_) (fun hc => ?_)
      · replace hF := hF.1 hc
        obtain ⟨x56, ex56⟩ : ∃ z : Int32, z = x3 + (1 : Int32) := ⟨_, rfl⟩
        replace hF := hF x56 ex56
        refine lv_iinc hx hb d_Sp_tellRound_75 hl (k := 3) rfl (v := x56) (by rw [ki_1, ex56]) (by decide) (lv' := [(3, .int x56), (0, .ref (Bm + v0)), (1, .int x1), (2, .int x2)]) rfl (fun ls hl => ?_)
        refine lv_goto hx hb d_Sp_tellRound_78 (tgt := 46) rfl ?_
        exact hK46 v0 x1 x2 x56 σ54 _ _ _ h_v0 hH hT hS (lv_sub hl [1, 2, 3, 0] rfl) hF
      · replace hF := hF.2 hc
        refine lv_aload_n hx hb d_Sp_tellRound_63 rfl (lv_at hl 0 rfl) ?_
        refine lv_iload_n hx hb d_Sp_tellRound_64 rfl (lv_at hl 3 rfl) ?_
        refine lv_iload_n hx hb d_Sp_tellRound_65 rfl (lv_at hl 1 rfl) ?_
        refine lv_iload_n hx hb d_Sp_tellRound_66 rfl (lv_at hl 2 rfl) ?_
        refine rs_ci (rs_runV C hH hT hl (J_Sp_tell l h_v0 hF) rc_Sp_tell tw_455 tw_457 ts_12 h_v0 ⟨rfl, by decide, by decide⟩ rfl ⟨⟨rfl, rfl⟩, by decide, by decide, by decide⟩ (Nat.le_of_ble_eq_true rfl) rfl d_Sp_tellRound_67) hS (fun x57 σ56 H locs hH hT hS hF => ?_)
        refine lv_if_ne hx hb d_Sp_tellRound_70 (tgt := 75) rfl (fun hc => ?_) (fun hc => ?_)
        · replace hF := hF.1 hc
          obtain ⟨x58, ex58⟩ : ∃ z : Int32, z = x3 + (1 : Int32) := ⟨_, rfl⟩
          replace hF := hF x58 ex58
          refine lv_iinc hx hb d_Sp_tellRound_75 hl (k := 3) rfl (v := x58) (by rw [ki_1, ex58]) (by decide) (lv' := [(3, .int x58), (0, .ref (Bm + v0)), (1, .int x1), (2, .int x2)]) rfl (fun ls hl => ?_)
          refine lv_goto hx hb d_Sp_tellRound_78 (tgt := 46) rfl ?_
          exact hK46 v0 x1 x2 x58 σ56 _ _ _ h_v0 hH hT hS (lv_sub hl [1, 2, 3, 0] rfl) hF
        · replace hF := hF.2 hc
          refine lv_iconst hx hb d_Sp_tellRound_73 ki_0 ?_
          exact rs_zret C hH hT hS (by decide) hF d_Sp_tellRound_74
set_option maxRecDepth 20000 in
theorem JL_Sp_tellRound_2 {p : Program} {l : Launch} {e : Env} {s : State} {m : MethodId} {args : Array Value} {below : List Frame} {meth : Method} {c : Code} {G : rs_G} {Bm : Nat} {S : rs_Shp} {Q : Int32 → rs_Mem → Prop} (C : rs_C "RouteSpeaker" prog_1_method_29_code 4 (some .boolean) G p s m meth c args) : ∀ n : Nat, ∀ (v0 : Nat) (x1 : Int32) (σ : rs_Mem) (H : Heap) (locs : List Loc) (ls : Array Slot), rs_Ok S 1 v0 → rs_H G Bm S σ H → rs_T S σ → va_S (rs_A Bm) s.heap H locs → lv_has ls 4 [(0, .ref (Bm + v0)), (1, .int x1)] → (L_Sp_tellRound_2 S.2.2 Q n) v0 x1 σ → W p l e { frames := 4, cells := 0, slots := 0, locals := 96 } s m args below meth c H locs 0 0 (MQ below (rs_Qi G Bm S Q) args s 0 0 (rs_A Bm)) (F0 m 2 ls []) := by
  have hx := C.1
  have hb := C.2.1
  intro n
  induction n with
  | zero => intros; rename_i hF; exact hF.elim
  | succ n hK2 =>
    intro v0 x1 σ H locs ls h_v0 hH hT hS hl hF
    replace hF : G_Sp_tellRound_2 S.2.2 Q (L_Sp_tellRound_2 S.2.2 Q n) v0 x1 σ := hF
    unfold G_Sp_tellRound_2 at hF
    refine lv_iload_n hx hb d_Sp_tellRound_2 rfl (lv_at hl 1 rfl) ?_
    refine lv_aload_n hx hb d_Sp_tellRound_3 rfl (lv_at hl 0 rfl) ?_
    refine rs_getR C hH hT h_v0 fk_1_0 tw_320 d_Sp_tellRound_4 (fun h51 => ?_)
    refine rs_getI C hH h51 fk_7_3 tw_42 d_Sp_tellRound_7 ?_
    refine lv_icmp_ge hx hb d_Sp_tellRound_10 (tgt := 87) rfl (fun hc => ?_) (fun hc => ?_)
    · replace hF := hF.1 hc
      refine lv_iconst hx hb d_Sp_tellRound_87 ki_1 ?_
      exact rs_zret C hH hT hS (by decide) hF d_Sp_tellRound_88
    · replace hF := hF.2 hc
      refine lv_aload_n hx hb d_Sp_tellRound_13 rfl (lv_at hl 0 rfl) ?_
      refine lv_iload_n hx hb d_Sp_tellRound_14 rfl (lv_at hl 1 rfl) ?_
      refine rs_ci (rs_runV C hH hT hl (J_Sp_chooseFor l h_v0 hF) rc_Sp_chooseFor tw_381 tw_383 ts_5 h_v0 ⟨rfl, by decide, by decide⟩ rfl ⟨⟨rfl, rfl⟩, by decide, by decide, by decide⟩ (Nat.le_of_ble_eq_true rfl) rfl d_Sp_tellRound_15) hS (fun x53 σ52 H locs hH hT hS hF => ?_)
      refine lv_istore_n hx hb d_Sp_tellRound_18 rfl hl (by decide) (lv' := [(2, .int x53), (0, .ref (Bm + v0)), (1, .int x1)]) rfl (fun ls hl => ?_)
      refine lv_aload_n hx hb d_Sp_tellRound_19 rfl (lv_at hl 1 rfl) ?_
      refine rs_getR C hH hT h_v0 fk_1_5 tw_325 d_Sp_tellRound_20 (fun h54 => ?_)
      refine lv_aload_n hx hb d_Sp_tellRound_23 rfl (lv_at hl 1 rfl) ?_
      refine rs_getR C hH hT h_v0 fk_1_0 tw_320 d_Sp_tellRound_24 (fun h55 => ?_)
      refine rs_getR C hH hT h55 fk_7_0 tw_35 d_Sp_tellRound_27 (fun h56 => ?_)
      refine lv_iload_n hx hb d_Sp_tellRound_30 rfl (lv_at hl 2 rfl) ?_
      obtain ⟨g57, hF⟩ := hF
      refine rs_iald C hH h56 g57 d_Sp_tellRound_31 ?_
      refine lv_aload_n hx hb d_Sp_tellRound_32 rfl (lv_at hl 1 rfl) ?_
      refine rs_getR C hH hT h_v0 fk_1_0 tw_320 d_Sp_tellRound_33 (fun h58 => ?_)
      refine rs_getR C hH hT h58 fk_7_1 tw_37 d_Sp_tellRound_36 (fun h59 => ?_)
      refine lv_iload_n hx hb d_Sp_tellRound_39 rfl (lv_at hl 2 rfl) ?_
      obtain ⟨g60, hF⟩ := hF
      refine rs_iald C hH h59 g60 d_Sp_tellRound_40 ?_
      refine rs_cv (rs_runV C hH hT hl (J_Le_setPrefix l h54 hF) rc_Le_setPrefix tw_447 tw_448 tw_449 h54 ⟨rfl, by decide, by decide⟩ rfl ⟨⟨rfl, rfl⟩, by decide, by decide, by decide⟩ (Nat.le_of_ble_eq_true rfl) rfl d_Sp_tellRound_41) hS (fun σ61 H locs hH hT hS hF => ?_)
      refine lv_iconst hx hb d_Sp_tellRound_44 ki_0 ?_
      refine lv_istore_n hx hb d_Sp_tellRound_45 rfl hl (by decide) (lv' := [(3, .int (0 : Int32)), (2, .int x53), (0, .ref (Bm + v0)), (1, .int x1)]) rfl (fun ls hl => ?_)
      obtain ⟨n, hF⟩ := hF
      exact JL_Sp_tellRound_46 C hK2 n v0 x1 x53 (0 : Int32) σ61 _ _ _ h_v0 hH hT hS (lv_sub hl [2, 3, 1, 0] rfl) hF
abbrev y_Sp_tellRound : MethodName := ({ cls := "RouteSpeaker", name := "tellRound", desc := "()Z" } : Jvm.MethodName)
theorem rc_Sp_tellRound : rs_Cal y_Sp_tellRound prog_1_method_29_code 4 (some .boolean) 0 := ⟨tw_380, tw_1, by decide, by decide, by decide +kernel⟩
set_option maxRecDepth 20000 in
theorem J_Sp_tellRound (l : Launch) {G : rs_G} {Bm : Nat} {S : rs_Shp} {v0 : Nat} {σ : rs_Mem} {Q : Int32 → rs_Mem → Prop} (h_v0 : rs_Ok S 1 v0) (hF : F_Sp_tellRound S.2.2 v0 σ Q) :
    Met l y_Sp_tellRound (rs_ws y_Sp_tellRound prog_1_method_29_code 4 (some .boolean)) { frames := 4, cells := 0, slots := 0, locals := 96 } (rs_P G Bm S σ [.ref (Bm + v0)]) (rs_Qi G Bm S Q) 0 0 (rs_A Bm) := by
  refine rs_met (own := "RouteSpeaker") (by decide) rfl (Nat.le_of_ble_eq_true rfl) (fun p e s m below meth c ls C hl hH hT hS => ?_)
  replace hl : lv_has ls 4 [(0, .ref (Bm + v0))] := hl
  have hx := C.1
  have hb := C.2.1
  unfold F_Sp_tellRound at hF
  refine lv_iconst hx hb d_Sp_tellRound_0 ki_0 ?_
  refine lv_istore_n hx hb d_Sp_tellRound_1 rfl hl (by decide) (lv' := [(1, .int (0 : Int32)), (0, .ref (Bm + v0))]) rfl (fun ls hl => ?_)
  obtain ⟨n, hF⟩ := hF
  exact JL_Sp_tellRound_2 C n v0 (0 : Int32) σ _ _ _ h_v0 hH hT hS (lv_sub hl [1, 0] rfl) hF
/-! RouteSpeaker.tellAll()V -/
theorem d_Sp_tellAll_0 : decode prog_1_method_28_code 0 = .ok (.iconst 0, 1) := by decide +kernel
theorem d_Sp_tellAll_1 : decode prog_1_method_28_code 1 = .ok (.istore_n 1, 1) := by decide +kernel
theorem d_Sp_tellAll_2 : decode prog_1_method_28_code 2 = .ok (.iload_n 1, 1) := by decide +kernel
theorem d_Sp_tellAll_3 : decode prog_1_method_28_code 3 = .ok (.iconst 4, 1) := by decide +kernel
theorem d_Sp_tellAll_4 : decode prog_1_method_28_code 4 = .ok (.if_icmp .gt (17), 3) := by decide +kernel
theorem d_Sp_tellAll_7 : decode prog_1_method_28_code 7 = .ok (.aload_n 0, 1) := by decide +kernel
theorem d_Sp_tellAll_8 : decode prog_1_method_28_code 8 = .ok (.invokevirtual 246, 3) := by decide +kernel
theorem d_Sp_tellAll_11 : decode prog_1_method_28_code 11 = .ok (.ifCond .eq (4), 3) := by decide +kernel
theorem d_Sp_tellAll_14 : decode prog_1_method_28_code 14 = .ok (.return_, 1) := by decide +kernel
theorem d_Sp_tellAll_15 : decode prog_1_method_28_code 15 = .ok (.iinc 1 (1), 3) := by decide +kernel
theorem d_Sp_tellAll_18 : decode prog_1_method_28_code 18 = .ok (.goto (-16), 3) := by decide +kernel
theorem d_Sp_tellAll_21 : decode prog_1_method_28_code 21 = .ok (.return_, 1) := by decide +kernel
def G_Sp_tellAll_2 (N : Nat → Nat) (Q : rs_Mem → Prop) (K2 : Nat → Int32 → rs_Mem → Prop) (v0 : Nat) (x1 : Int32) (σ : rs_Mem) : Prop :=
  (((4 : Int32) < x1 → (Q σ)) ∧ (¬ ((4 : Int32) < x1) → (F_Sp_tellRound N v0 σ (fun x52 σ51 => ((x52 = 0 → (∀ x53 : Int32, x53 = x1 + (1 : Int32) → (K2 v0 x53 σ51))) ∧ (¬ (x52 = 0) → (Q σ51)))))))
noncomputable def L_Sp_tellAll_2 (N : Nat → Nat) (Q : rs_Mem → Prop) (n : Nat) : Nat → Int32 → rs_Mem → Prop := Nat.rec (motive := fun _ => Nat → Int32 → rs_Mem → Prop) (fun _ _ _ => False) (fun _ K => G_Sp_tellAll_2 N Q K) n
def F_Sp_tellAll (N : Nat → Nat) (v0 : Nat) (σ : rs_Mem) (Q : rs_Mem → Prop) : Prop :=
  (∃ n : Nat, L_Sp_tellAll_2 N Q n v0 (0 : Int32) σ)
set_option maxRecDepth 20000 in
theorem JL_Sp_tellAll_2 {p : Program} {l : Launch} {e : Env} {s : State} {m : MethodId} {args : Array Value} {below : List Frame} {meth : Method} {c : Code} {G : rs_G} {Bm : Nat} {S : rs_Shp} {Q : rs_Mem → Prop} (C : rs_C "RouteSpeaker" prog_1_method_28_code 2 none G p s m meth c args) : ∀ n : Nat, ∀ (v0 : Nat) (x1 : Int32) (σ : rs_Mem) (H : Heap) (locs : List Loc) (ls : Array Slot), rs_Ok S 1 v0 → rs_H G Bm S σ H → rs_T S σ → va_S (rs_A Bm) s.heap H locs → lv_has ls 2 [(0, .ref (Bm + v0)), (1, .int x1)] → (L_Sp_tellAll_2 S.2.2 Q n) v0 x1 σ → W p l e { frames := 5, cells := 0, slots := 0, locals := 119 } s m args below meth c H locs 0 0 (MQ below (rs_Qv G Bm S Q) args s 0 0 (rs_A Bm)) (F0 m 2 ls []) := by
  have hx := C.1
  have hb := C.2.1
  intro n
  induction n with
  | zero => intros; rename_i hF; exact hF.elim
  | succ n hK2 =>
    intro v0 x1 σ H locs ls h_v0 hH hT hS hl hF
    replace hF : G_Sp_tellAll_2 S.2.2 Q (L_Sp_tellAll_2 S.2.2 Q n) v0 x1 σ := hF
    unfold G_Sp_tellAll_2 at hF
    refine lv_iload_n hx hb d_Sp_tellAll_2 rfl (lv_at hl 1 rfl) ?_
    refine lv_iconst hx hb d_Sp_tellAll_3 ki_4 ?_
    refine lv_icmp_gt hx hb d_Sp_tellAll_4 (tgt := 21) rfl (fun hc => ?_) (fun hc => ?_)
    · replace hF := hF.1 hc
      exact rs_vret C hH hT hS hF d_Sp_tellAll_21
    · replace hF := hF.2 hc
      refine lv_aload_n hx hb d_Sp_tellAll_7 rfl (lv_at hl 0 rfl) ?_
      refine rs_ci (rs_runV C hH hT hl (J_Sp_tellRound l h_v0 hF) rc_Sp_tellRound tw_377 tw_379 ts_4 h_v0 ⟨rfl, by decide, by decide⟩ rfl ⟨⟨rfl, rfl⟩, by decide, by decide, by decide⟩ (Nat.le_of_ble_eq_true rfl) rfl d_Sp_tellAll_8) hS (fun x52 σ51 H locs hH hT hS hF => ?_)
      refine lv_if_eq hx hb d_Sp_tellAll_11 (tgt := 15) rfl (fun hc => ?_) (fun hc => ?_)
      · replace hF := hF.1 hc
        obtain ⟨x53, ex53⟩ : ∃ z : Int32, z = x1 + (1 : Int32) := ⟨_, rfl⟩
        replace hF := hF x53 ex53
        refine lv_iinc hx hb d_Sp_tellAll_15 hl (k := 1) rfl (v := x53) (by rw [ki_1, ex53]) (by decide) (lv' := [(1, .int x53), (0, .ref (Bm + v0))]) rfl (fun ls hl => ?_)
        refine lv_goto hx hb d_Sp_tellAll_18 (tgt := 2) rfl ?_
        exact hK2 v0 x53 σ51 _ _ _ h_v0 hH hT hS (lv_sub hl [1, 0] rfl) hF
      · replace hF := hF.2 hc
        exact rs_vret C hH hT hS hF d_Sp_tellAll_14
abbrev y_Sp_tellAll : MethodName := ({ cls := "RouteSpeaker", name := "tellAll", desc := "()V" } : Jvm.MethodName)
theorem rc_Sp_tellAll : rs_Cal y_Sp_tellAll prog_1_method_28_code 2 none 0 := ⟨tw_376, tw_1, by decide, by decide, by decide +kernel⟩
set_option maxRecDepth 20000 in
theorem J_Sp_tellAll (l : Launch) {G : rs_G} {Bm : Nat} {S : rs_Shp} {v0 : Nat} {σ : rs_Mem} {Q : rs_Mem → Prop} (h_v0 : rs_Ok S 1 v0) (hF : F_Sp_tellAll S.2.2 v0 σ Q) :
    Met l y_Sp_tellAll (rs_ws y_Sp_tellAll prog_1_method_28_code 2 none) { frames := 5, cells := 0, slots := 0, locals := 119 } (rs_P G Bm S σ [.ref (Bm + v0)]) (rs_Qv G Bm S Q) 0 0 (rs_A Bm) := by
  refine rs_met (own := "RouteSpeaker") (by decide) rfl (Nat.le_of_ble_eq_true rfl) (fun p e s m below meth c ls C hl hH hT hS => ?_)
  replace hl : lv_has ls 2 [(0, .ref (Bm + v0))] := hl
  have hx := C.1
  have hb := C.2.1
  unfold F_Sp_tellAll at hF
  refine lv_iconst hx hb d_Sp_tellAll_0 ki_0 ?_
  refine lv_istore_n hx hb d_Sp_tellAll_1 rfl hl (by decide) (lv' := [(1, .int (0 : Int32)), (0, .ref (Bm + v0))]) rfl (fun ls hl => ?_)
  obtain ⟨n, hF⟩ := hF
  exact JL_Sp_tellAll_2 C n v0 (0 : Int32) σ _ _ _ h_v0 hH hT hS (lv_sub hl [1, 0] rfl) hF
/-! RouteSpeaker$Rules.clear()V -/
theorem d_Ru_clear_0 : decode prog_9_method_3_code 0 = .ok (.aload_n 0, 1) := by decide +kernel
theorem d_Ru_clear_1 : decode prog_9_method_3_code 1 = .ok (.iconst 0, 1) := by decide +kernel
theorem d_Ru_clear_2 : decode prog_9_method_3_code 2 = .ok (.putfield 21, 3) := by decide +kernel
theorem d_Ru_clear_5 : decode prog_9_method_3_code 5 = .ok (.return_, 1) := by decide +kernel
def F_Ru_clear (N : Nat → Nat) (v0 : Nat) (σ : rs_Mem) (Q : rs_Mem → Prop) : Prop :=
  (∀ σ51 : rs_Mem, σ51 = rs_sI σ v0 3 (0 : Int32) → (Q σ51))
abbrev y_Ru_clear : MethodName := ({ cls := "RouteSpeaker$Rules", name := "clear", desc := "()V" } : Jvm.MethodName)
theorem rc_Ru_clear : rs_Cal y_Ru_clear prog_9_method_3_code 1 none 0 := ⟨tw_642, tw_8, by decide, by decide, by decide +kernel⟩
set_option maxRecDepth 20000 in
theorem J_Ru_clear (l : Launch) {G : rs_G} {Bm : Nat} {S : rs_Shp} {v0 : Nat} {σ : rs_Mem} {Q : rs_Mem → Prop} (h_v0 : rs_Ok S 9 v0) (hF : F_Ru_clear S.2.2 v0 σ Q) :
    Met l y_Ru_clear (rs_ws y_Ru_clear prog_9_method_3_code 1 none) { frames := 0, cells := 0, slots := 0, locals := 0 } (rs_P G Bm S σ [.ref (Bm + v0)]) (rs_Qv G Bm S Q) 0 0 (rs_A Bm) := by
  refine rs_met (own := "RouteSpeaker$Rules") (by decide) rfl (Nat.le_of_ble_eq_true rfl) (fun p e s m below meth c ls C hl hH hT hS => ?_)
  replace hl : lv_has ls 1 [(0, .ref (Bm + v0))] := hl
  have hx := C.1
  have hb := C.2.1
  unfold F_Ru_clear at hF
  refine lv_aload_n hx hb d_Ru_clear_0 rfl (lv_at hl 0 rfl) ?_
  refine lv_iconst hx hb d_Ru_clear_1 ki_0 ?_
  refine rs_putI C hH hT hS h_v0 fk_9_3 rfl tw_201 d_Ru_clear_2 (fun σ51 H locs eσ51 hH hT hS => ?_)
  replace hF := hF σ51 eσ51
  exact rs_vret C hH hT hS hF d_Ru_clear_5
/-! RouteSpeaker$Prefixes.find(II)I -/
theorem d_Px_find_0 : decode prog_7_method_2_code 0 = .ok (.iconst 0, 1) := by decide +kernel
theorem d_Px_find_1 : decode prog_7_method_2_code 1 = .ok (.istore_n 3, 1) := by decide +kernel
theorem d_Px_find_2 : decode prog_7_method_2_code 2 = .ok (.iload_n 3, 1) := by decide +kernel
theorem d_Px_find_3 : decode prog_7_method_2_code 3 = .ok (.aload_n 0, 1) := by decide +kernel
theorem d_Px_find_4 : decode prog_7_method_2_code 4 = .ok (.getfield 22, 3) := by decide +kernel
theorem d_Px_find_7 : decode prog_7_method_2_code 7 = .ok (.if_icmp .ge (31), 3) := by decide +kernel
theorem d_Px_find_10 : decode prog_7_method_2_code 10 = .ok (.aload_n 0, 1) := by decide +kernel
theorem d_Px_find_11 : decode prog_7_method_2_code 11 = .ok (.getfield 9, 3) := by decide +kernel
theorem d_Px_find_14 : decode prog_7_method_2_code 14 = .ok (.iload_n 3, 1) := by decide +kernel
theorem d_Px_find_15 : decode prog_7_method_2_code 15 = .ok (.iaload, 1) := by decide +kernel
theorem d_Px_find_16 : decode prog_7_method_2_code 16 = .ok (.iload_n 1, 1) := by decide +kernel
theorem d_Px_find_17 : decode prog_7_method_2_code 17 = .ok (.if_icmp .ne (15), 3) := by decide +kernel
theorem d_Px_find_20 : decode prog_7_method_2_code 20 = .ok (.aload_n 0, 1) := by decide +kernel
theorem d_Px_find_21 : decode prog_7_method_2_code 21 = .ok (.getfield 15, 3) := by decide +kernel
theorem d_Px_find_24 : decode prog_7_method_2_code 24 = .ok (.iload_n 3, 1) := by decide +kernel
theorem d_Px_find_25 : decode prog_7_method_2_code 25 = .ok (.iaload, 1) := by decide +kernel
theorem d_Px_find_26 : decode prog_7_method_2_code 26 = .ok (.iload_n 2, 1) := by decide +kernel
theorem d_Px_find_27 : decode prog_7_method_2_code 27 = .ok (.if_icmp .ne (5), 3) := by decide +kernel
theorem d_Px_find_30 : decode prog_7_method_2_code 30 = .ok (.iload_n 3, 1) := by decide +kernel
theorem d_Px_find_31 : decode prog_7_method_2_code 31 = .ok (.ireturn, 1) := by decide +kernel
theorem d_Px_find_32 : decode prog_7_method_2_code 32 = .ok (.iinc 3 (1), 3) := by decide +kernel
theorem d_Px_find_35 : decode prog_7_method_2_code 35 = .ok (.goto (-33), 3) := by decide +kernel
theorem d_Px_find_38 : decode prog_7_method_2_code 38 = .ok (.iconst (-1), 1) := by decide +kernel
theorem d_Px_find_39 : decode prog_7_method_2_code 39 = .ok (.ireturn, 1) := by decide +kernel
def G_Px_find_2 (N : Nat → Nat) (Q : Int32 → rs_Mem → Prop) (K2 : Nat → Int32 → Int32 → Int32 → rs_Mem → Prop) (v0 : Nat) (x1 : Int32) (x2 : Int32) (x3 : Int32) (σ : rs_Mem) : Prop :=
  (((rs_I σ v0 3) ≤ x3 → (Q (-1 : Int32) σ)) ∧ (¬ ((rs_I σ v0 3) ≤ x3) → (vp_in x3 (N (rs_R σ v0 0)) ∧ ((¬ ((rs_I σ (rs_R σ v0 0) x3.toNatClampNeg) = x1) → (∀ x53 : Int32, x53 = x3 + (1 : Int32) → (K2 v0 x1 x2 x53 σ))) ∧ ((rs_I σ (rs_R σ v0 0) x3.toNatClampNeg) = x1 → (vp_in x3 (N (rs_R σ v0 1)) ∧ ((¬ ((rs_I σ (rs_R σ v0 1) x3.toNatClampNeg) = x2) → (∀ x55 : Int32, x55 = x3 + (1 : Int32) → (K2 v0 x1 x2 x55 σ))) ∧ ((rs_I σ (rs_R σ v0 1) x3.toNatClampNeg) = x2 → (Q x3 σ)))))))))
noncomputable def L_Px_find_2 (N : Nat → Nat) (Q : Int32 → rs_Mem → Prop) (n : Nat) : Nat → Int32 → Int32 → Int32 → rs_Mem → Prop := Nat.rec (motive := fun _ => Nat → Int32 → Int32 → Int32 → rs_Mem → Prop) (fun _ _ _ _ _ => False) (fun _ K => G_Px_find_2 N Q K) n
def F_Px_find (N : Nat → Nat) (v0 : Nat) (x1 : Int32) (x2 : Int32) (σ : rs_Mem) (Q : Int32 → rs_Mem → Prop) : Prop :=
  (∃ n : Nat, L_Px_find_2 N Q n v0 x1 x2 (0 : Int32) σ)
set_option maxRecDepth 20000 in
theorem JL_Px_find_2 {p : Program} {l : Launch} {e : Env} {s : State} {m : MethodId} {args : Array Value} {below : List Frame} {meth : Method} {c : Code} {G : rs_G} {Bm : Nat} {S : rs_Shp} {Q : Int32 → rs_Mem → Prop} (C : rs_C "RouteSpeaker$Prefixes" prog_7_method_2_code 4 (some .int) G p s m meth c args) : ∀ n : Nat, ∀ (v0 : Nat) (x1 : Int32) (x2 : Int32) (x3 : Int32) (σ : rs_Mem) (H : Heap) (locs : List Loc) (ls : Array Slot), rs_Ok S 7 v0 → rs_H G Bm S σ H → rs_T S σ → va_S (rs_A Bm) s.heap H locs → lv_has ls 4 [(0, .ref (Bm + v0)), (1, .int x1), (2, .int x2), (3, .int x3)] → (L_Px_find_2 S.2.2 Q n) v0 x1 x2 x3 σ → W p l e { frames := 0, cells := 0, slots := 0, locals := 0 } s m args below meth c H locs 0 0 (MQ below (rs_Qi G Bm S Q) args s 0 0 (rs_A Bm)) (F0 m 2 ls []) := by
  have hx := C.1
  have hb := C.2.1
  intro n
  induction n with
  | zero => intros; rename_i hF; exact hF.elim
  | succ n hK2 =>
    intro v0 x1 x2 x3 σ H locs ls h_v0 hH hT hS hl hF
    replace hF : G_Px_find_2 S.2.2 Q (L_Px_find_2 S.2.2 Q n) v0 x1 x2 x3 σ := hF
    unfold G_Px_find_2 at hF
    refine lv_iload_n hx hb d_Px_find_2 rfl (lv_at hl 3 rfl) ?_
    refine lv_aload_n hx hb d_Px_find_3 rfl (lv_at hl 0 rfl) ?_
    refine rs_getI C hH h_v0 fk_7_3 tw_40 d_Px_find_4 ?_
    refine lv_icmp_ge hx hb d_Px_find_7 (tgt := 38) rfl (fun hc => ?_) (fun hc => ?_)
    · replace hF := hF.1 hc
      refine lv_iconst hx hb d_Px_find_38 ki_m1 ?_
      exact rs_iret C hH hT hS hF d_Px_find_39
    · replace hF := hF.2 hc
      refine lv_aload_n hx hb d_Px_find_10 rfl (lv_at hl 0 rfl) ?_
      refine rs_getR C hH hT h_v0 fk_7_0 tw_34 d_Px_find_11 (fun h51 => ?_)
      refine lv_iload_n hx hb d_Px_find_14 rfl (lv_at hl 3 rfl) ?_
      obtain ⟨g52, hF⟩ := hF
      refine rs_iald C hH h51 g52 d_Px_find_15 ?_
      refine lv_iload_n hx hb d_Px_find_16 rfl (lv_at hl 1 rfl) ?_
      refine lv_icmp_ne hx hb d_Px_find_17 (tgt := 32) rfl (fun hc => ?_) (fun hc => ?_)
      · replace hF := hF.1 hc
        obtain ⟨x53, ex53⟩ : ∃ z : Int32, z = x3 + (1 : Int32) := ⟨_, rfl⟩
        replace hF := hF x53 ex53
        refine lv_iinc hx hb d_Px_find_32 hl (k := 3) rfl (v := x53) (by rw [ki_1, ex53]) (by decide) (lv' := [(3, .int x53), (0, .ref (Bm + v0)), (1, .int x1), (2, .int x2)]) rfl (fun ls hl => ?_)
        refine lv_goto hx hb d_Px_find_35 (tgt := 2) rfl ?_
        exact hK2 v0 x1 x2 x53 σ _ _ _ h_v0 hH hT hS (lv_sub hl [1, 2, 3, 0] rfl) hF
      · replace hF := hF.2 hc
        refine lv_aload_n hx hb d_Px_find_20 rfl (lv_at hl 0 rfl) ?_
        refine rs_getR C hH hT h_v0 fk_7_1 tw_36 d_Px_find_21 (fun h53 => ?_)
        refine lv_iload_n hx hb d_Px_find_24 rfl (lv_at hl 3 rfl) ?_
        obtain ⟨g54, hF⟩ := hF
        refine rs_iald C hH h53 g54 d_Px_find_25 ?_
        refine lv_iload_n hx hb d_Px_find_26 rfl (lv_at hl 2 rfl) ?_
        refine lv_icmp_ne hx hb d_Px_find_27 (tgt := 32) rfl (fun hc => ?_) (fun hc => ?_)
        · replace hF := hF.1 hc
          obtain ⟨x55, ex55⟩ : ∃ z : Int32, z = x3 + (1 : Int32) := ⟨_, rfl⟩
          replace hF := hF x55 ex55
          refine lv_iinc hx hb d_Px_find_32 hl (k := 3) rfl (v := x55) (by rw [ki_1, ex55]) (by decide) (lv' := [(3, .int x55), (0, .ref (Bm + v0)), (1, .int x1), (2, .int x2)]) rfl (fun ls hl => ?_)
          refine lv_goto hx hb d_Px_find_35 (tgt := 2) rfl ?_
          exact hK2 v0 x1 x2 x55 σ _ _ _ h_v0 hH hT hS (lv_sub hl [1, 2, 3, 0] rfl) hF
        · replace hF := hF.2 hc
          refine lv_iload_n hx hb d_Px_find_30 rfl (lv_at hl 3 rfl) ?_
          exact rs_iret C hH hT hS hF d_Px_find_31
abbrev y_Px_find : MethodName := ({ cls := "RouteSpeaker$Prefixes", name := "find", desc := "(II)I" } : Jvm.MethodName)
theorem rc_Px_find : rs_Cal y_Px_find prog_7_method_2_code 4 (some .int) 2 := ⟨tw_664, tw_2, by decide, by decide, by decide +kernel⟩
set_option maxRecDepth 20000 in
theorem J_Px_find (l : Launch) {G : rs_G} {Bm : Nat} {S : rs_Shp} {v0 : Nat} {x1 : Int32} {x2 : Int32} {σ : rs_Mem} {Q : Int32 → rs_Mem → Prop} (h_v0 : rs_Ok S 7 v0) (hF : F_Px_find S.2.2 v0 x1 x2 σ Q) :
    Met l y_Px_find (rs_ws y_Px_find prog_7_method_2_code 4 (some .int)) { frames := 0, cells := 0, slots := 0, locals := 0 } (rs_P G Bm S σ [.ref (Bm + v0), .int x1, .int x2]) (rs_Qi G Bm S Q) 0 0 (rs_A Bm) := by
  refine rs_met (own := "RouteSpeaker$Prefixes") (by decide) rfl (Nat.le_of_ble_eq_true rfl) (fun p e s m below meth c ls C hl hH hT hS => ?_)
  replace hl : lv_has ls 4 [(0, .ref (Bm + v0)), (1, .int x1), (2, .int x2)] := hl
  have hx := C.1
  have hb := C.2.1
  unfold F_Px_find at hF
  refine lv_iconst hx hb d_Px_find_0 ki_0 ?_
  refine lv_istore_n hx hb d_Px_find_1 rfl hl (by decide) (lv' := [(3, .int (0 : Int32)), (0, .ref (Bm + v0)), (1, .int x1), (2, .int x2)]) rfl (fun ls hl => ?_)
  obtain ⟨n, hF⟩ := hF
  exact JL_Px_find_2 C n v0 x1 x2 (0 : Int32) σ _ _ _ h_v0 hH hT hS (lv_sub hl [1, 2, 3, 0] rfl) hF
/-! RouteSpeaker$Prefixes.learn(II)I -/
theorem d_Px_learn_0 : decode prog_7_method_3_code 0 = .ok (.aload_n 0, 1) := by decide +kernel
theorem d_Px_learn_1 : decode prog_7_method_3_code 1 = .ok (.iload_n 1, 1) := by decide +kernel
theorem d_Px_learn_2 : decode prog_7_method_3_code 2 = .ok (.iload_n 2, 1) := by decide +kernel
theorem d_Px_learn_3 : decode prog_7_method_3_code 3 = .ok (.invokevirtual 26, 3) := by decide +kernel
theorem d_Px_learn_6 : decode prog_7_method_3_code 6 = .ok (.istore_n 3, 1) := by decide +kernel
theorem d_Px_learn_7 : decode prog_7_method_3_code 7 = .ok (.iload_n 3, 1) := by decide +kernel
theorem d_Px_learn_8 : decode prog_7_method_3_code 8 = .ok (.iconst (-1), 1) := by decide +kernel
theorem d_Px_learn_9 : decode prog_7_method_3_code 9 = .ok (.if_icmp .ne (12), 3) := by decide +kernel
theorem d_Px_learn_12 : decode prog_7_method_3_code 12 = .ok (.aload_n 0, 1) := by decide +kernel
theorem d_Px_learn_13 : decode prog_7_method_3_code 13 = .ok (.getfield 22, 3) := by decide +kernel
theorem d_Px_learn_16 : decode prog_7_method_3_code 16 = .ok (.bipush (12), 2) := by decide +kernel
theorem d_Px_learn_18 : decode prog_7_method_3_code 18 = .ok (.if_icmp .lt (5), 3) := by decide +kernel
theorem d_Px_learn_21 : decode prog_7_method_3_code 21 = .ok (.iload_n 3, 1) := by decide +kernel
theorem d_Px_learn_22 : decode prog_7_method_3_code 22 = .ok (.ireturn, 1) := by decide +kernel
theorem d_Px_learn_23 : decode prog_7_method_3_code 23 = .ok (.aload_n 0, 1) := by decide +kernel
theorem d_Px_learn_24 : decode prog_7_method_3_code 24 = .ok (.getfield 9, 3) := by decide +kernel
theorem d_Px_learn_27 : decode prog_7_method_3_code 27 = .ok (.aload_n 0, 1) := by decide +kernel
theorem d_Px_learn_28 : decode prog_7_method_3_code 28 = .ok (.getfield 22, 3) := by decide +kernel
theorem d_Px_learn_31 : decode prog_7_method_3_code 31 = .ok (.iload_n 1, 1) := by decide +kernel
theorem d_Px_learn_32 : decode prog_7_method_3_code 32 = .ok (.iastore, 1) := by decide +kernel
theorem d_Px_learn_33 : decode prog_7_method_3_code 33 = .ok (.aload_n 0, 1) := by decide +kernel
theorem d_Px_learn_34 : decode prog_7_method_3_code 34 = .ok (.getfield 15, 3) := by decide +kernel
theorem d_Px_learn_37 : decode prog_7_method_3_code 37 = .ok (.aload_n 0, 1) := by decide +kernel
theorem d_Px_learn_38 : decode prog_7_method_3_code 38 = .ok (.getfield 22, 3) := by decide +kernel
theorem d_Px_learn_41 : decode prog_7_method_3_code 41 = .ok (.iload_n 2, 1) := by decide +kernel
theorem d_Px_learn_42 : decode prog_7_method_3_code 42 = .ok (.iastore, 1) := by decide +kernel
theorem d_Px_learn_43 : decode prog_7_method_3_code 43 = .ok (.aload_n 0, 1) := by decide +kernel
theorem d_Px_learn_44 : decode prog_7_method_3_code 44 = .ok (.dup, 1) := by decide +kernel
theorem d_Px_learn_45 : decode prog_7_method_3_code 45 = .ok (.getfield 22, 3) := by decide +kernel
theorem d_Px_learn_48 : decode prog_7_method_3_code 48 = .ok (.iconst 1, 1) := by decide +kernel
theorem d_Px_learn_49 : decode prog_7_method_3_code 49 = .ok (.iadd, 1) := by decide +kernel
theorem d_Px_learn_50 : decode prog_7_method_3_code 50 = .ok (.putfield 22, 3) := by decide +kernel
theorem d_Px_learn_53 : decode prog_7_method_3_code 53 = .ok (.aload_n 0, 1) := by decide +kernel
theorem d_Px_learn_54 : decode prog_7_method_3_code 54 = .ok (.getfield 22, 3) := by decide +kernel
theorem d_Px_learn_57 : decode prog_7_method_3_code 57 = .ok (.iconst 1, 1) := by decide +kernel
theorem d_Px_learn_58 : decode prog_7_method_3_code 58 = .ok (.isub, 1) := by decide +kernel
theorem d_Px_learn_59 : decode prog_7_method_3_code 59 = .ok (.ireturn, 1) := by decide +kernel
def F_Px_learn (N : Nat → Nat) (v0 : Nat) (x1 : Int32) (x2 : Int32) (σ : rs_Mem) (Q : Int32 → rs_Mem → Prop) : Prop :=
  (F_Px_find N v0 x1 x2 σ (fun x52 σ51 => ((¬ (x52 = (-1 : Int32)) → (Q x52 σ51)) ∧ (x52 = (-1 : Int32) → (((rs_I σ51 v0 3) < (12 : Int32) → (vp_in (rs_I σ51 v0 3) (N (rs_R σ51 v0 0)) ∧ ∀ σ55 : rs_Mem, σ55 = rs_sI σ51 (rs_R σ51 v0 0) (rs_I σ51 v0 3).toNatClampNeg x1 → (vp_in (rs_I σ55 v0 3) (N (rs_R σ55 v0 1)) ∧ ∀ σ58 : rs_Mem, σ58 = rs_sI σ55 (rs_R σ55 v0 1) (rs_I σ55 v0 3).toNatClampNeg x2 → (∀ σ59 : rs_Mem, σ59 = rs_sI σ58 v0 3 ((rs_I σ58 v0 3) + (1 : Int32)) → (Q ((rs_I σ59 v0 3) - (1 : Int32)) σ59))))) ∧ (¬ ((rs_I σ51 v0 3) < (12 : Int32)) → (Q x52 σ51)))))))
abbrev y_Px_learn : MethodName := ({ cls := "RouteSpeaker$Prefixes", name := "learn", desc := "(II)I" } : Jvm.MethodName)
theorem rc_Px_learn : rs_Cal y_Px_learn prog_7_method_3_code 4 (some .int) 2 := ⟨tw_660, tw_2, by decide, by decide, by decide +kernel⟩
set_option maxRecDepth 20000 in
theorem J_Px_learn (l : Launch) {G : rs_G} {Bm : Nat} {S : rs_Shp} {v0 : Nat} {x1 : Int32} {x2 : Int32} {σ : rs_Mem} {Q : Int32 → rs_Mem → Prop} (h_v0 : rs_Ok S 7 v0) (hF : F_Px_learn S.2.2 v0 x1 x2 σ Q) :
    Met l y_Px_learn (rs_ws y_Px_learn prog_7_method_3_code 4 (some .int)) { frames := 1, cells := 0, slots := 0, locals := 23 } (rs_P G Bm S σ [.ref (Bm + v0), .int x1, .int x2]) (rs_Qi G Bm S Q) 0 0 (rs_A Bm) := by
  refine rs_met (own := "RouteSpeaker$Prefixes") (by decide) rfl (Nat.le_of_ble_eq_true rfl) (fun p e s m below meth c ls C hl hH hT hS => ?_)
  replace hl : lv_has ls 4 [(0, .ref (Bm + v0)), (1, .int x1), (2, .int x2)] := hl
  have hx := C.1
  have hb := C.2.1
  unfold F_Px_learn at hF
  refine lv_aload_n hx hb d_Px_learn_0 rfl (lv_at hl 0 rfl) ?_
  refine lv_iload_n hx hb d_Px_learn_1 rfl (lv_at hl 1 rfl) ?_
  refine lv_iload_n hx hb d_Px_learn_2 rfl (lv_at hl 2 rfl) ?_
  refine rs_ci (rs_runV C hH hT hl (J_Px_find l h_v0 hF) rc_Px_find tw_661 tw_662 tw_663 h_v0 ⟨rfl, by decide, by decide⟩ rfl ⟨⟨rfl, rfl⟩, by decide, by decide, by decide⟩ (Nat.le_of_ble_eq_true rfl) rfl d_Px_learn_3) hS (fun x52 σ51 H locs hH hT hS hF => ?_)
  refine lv_istore_n hx hb d_Px_learn_6 rfl hl (by decide) (lv' := [(3, .int x52), (0, .ref (Bm + v0)), (1, .int x1), (2, .int x2)]) rfl (fun ls hl => ?_)
  refine lv_iload_n hx hb d_Px_learn_7 rfl (lv_at hl 0 rfl) ?_
  refine lv_iconst hx hb d_Px_learn_8 ki_m1 ?_
  refine lv_icmp_ne hx hb d_Px_learn_9 (tgt := 21) rfl (fun hc => ?_) (fun hc => ?_)
  · replace hF := hF.1 hc
    refine lv_iload_n hx hb d_Px_learn_21 rfl (lv_at hl 0 rfl) ?_
    exact rs_iret C hH hT hS hF d_Px_learn_22
  · replace hF := hF.2 hc
    refine lv_aload_n hx hb d_Px_learn_12 rfl (lv_at hl 1 rfl) ?_
    refine rs_getI C hH h_v0 fk_7_3 tw_40 d_Px_learn_13 ?_
    refine lv_bipush hx hb d_Px_learn_16 kb_12 ?_
    refine lv_icmp_lt hx hb d_Px_learn_18 (tgt := 23) rfl (fun hc => ?_) (fun hc => ?_)
    · replace hF := hF.1 hc
      refine lv_aload_n hx hb d_Px_learn_23 rfl (lv_at hl 1 rfl) ?_
      refine rs_getR C hH hT h_v0 fk_7_0 tw_34 d_Px_learn_24 (fun h53 => ?_)
      refine lv_aload_n hx hb d_Px_learn_27 rfl (lv_at hl 1 rfl) ?_
      refine rs_getI C hH h_v0 fk_7_3 tw_40 d_Px_learn_28 ?_
      refine lv_iload_n hx hb d_Px_learn_31 rfl (lv_at hl 2 rfl) ?_
      obtain ⟨g54, hF⟩ := hF
      refine rs_iast C hH hT hS h53 g54 d_Px_learn_32 (fun σ55 H locs eσ55 hH hT hS => ?_)
      replace hF := hF σ55 eσ55
      refine lv_aload_n hx hb d_Px_learn_33 rfl (lv_at hl 1 rfl) ?_
      refine rs_getR C hH hT h_v0 fk_7_1 tw_36 d_Px_learn_34 (fun h56 => ?_)
      refine lv_aload_n hx hb d_Px_learn_37 rfl (lv_at hl 1 rfl) ?_
      refine rs_getI C hH h_v0 fk_7_3 tw_40 d_Px_learn_38 ?_
      refine lv_iload_n hx hb d_Px_learn_41 rfl (lv_at hl 3 rfl) ?_
      obtain ⟨g57, hF⟩ := hF
      refine rs_iast C hH hT hS h56 g57 d_Px_learn_42 (fun σ58 H locs eσ58 hH hT hS => ?_)
      replace hF := hF σ58 eσ58
      refine lv_aload_n hx hb d_Px_learn_43 rfl (lv_at hl 1 rfl) ?_
      refine lv_dup hx hb d_Px_learn_44 rfl ?_
      refine rs_getI C hH h_v0 fk_7_3 tw_40 d_Px_learn_45 ?_
      refine lv_iconst hx hb d_Px_learn_48 ki_1 ?_
      refine lv_iadd hx hb d_Px_learn_49 ?_
      refine rs_putI C hH hT hS h_v0 fk_7_3 rfl tw_40 d_Px_learn_50 (fun σ59 H locs eσ59 hH hT hS => ?_)
      replace hF := hF σ59 eσ59
      refine lv_aload_n hx hb d_Px_learn_53 rfl (lv_at hl 1 rfl) ?_
      refine rs_getI C hH h_v0 fk_7_3 tw_40 d_Px_learn_54 ?_
      refine lv_iconst hx hb d_Px_learn_57 ki_1 ?_
      refine lv_isub hx hb d_Px_learn_58 ?_
      exact rs_iret C hH hT hS hF d_Px_learn_59
    · replace hF := hF.2 hc
      refine lv_iload_n hx hb d_Px_learn_21 rfl (lv_at hl 0 rfl) ?_
      exact rs_iret C hH hT hS hF d_Px_learn_22
/-! RouteSpeaker$Peer.open()V -/
theorem d_Pe_open_0 : decode prog_6_method_5_code 0 = .ok (.aload_n 0, 1) := by decide +kernel
theorem d_Pe_open_1 : decode prog_6_method_5_code 1 = .ok (.iconst 1, 1) := by decide +kernel
theorem d_Pe_open_2 : decode prog_6_method_5_code 2 = .ok (.putfield 51, 3) := by decide +kernel
theorem d_Pe_open_5 : decode prog_6_method_5_code 5 = .ok (.aload_n 0, 1) := by decide +kernel
theorem d_Pe_open_6 : decode prog_6_method_5_code 6 = .ok (.bipush (8), 2) := by decide +kernel
theorem d_Pe_open_8 : decode prog_6_method_5_code 8 = .ok (.putfield 61, 3) := by decide +kernel
theorem d_Pe_open_11 : decode prog_6_method_5_code 11 = .ok (.aload_n 0, 1) := by decide +kernel
theorem d_Pe_open_12 : decode prog_6_method_5_code 12 = .ok (.getfield 33, 3) := by decide +kernel
theorem d_Pe_open_15 : decode prog_6_method_5_code 15 = .ok (.iconst 0, 1) := by decide +kernel
theorem d_Pe_open_16 : decode prog_6_method_5_code 16 = .ok (.bipush (6), 2) := by decide +kernel
theorem d_Pe_open_18 : decode prog_6_method_5_code 18 = .ok (.iastore, 1) := by decide +kernel
theorem d_Pe_open_19 : decode prog_6_method_5_code 19 = .ok (.aload_n 0, 1) := by decide +kernel
theorem d_Pe_open_20 : decode prog_6_method_5_code 20 = .ok (.getfield 33, 3) := by decide +kernel
theorem d_Pe_open_23 : decode prog_6_method_5_code 23 = .ok (.iconst 1, 1) := by decide +kernel
theorem d_Pe_open_24 : decode prog_6_method_5_code 24 = .ok (.iconst 1, 1) := by decide +kernel
theorem d_Pe_open_25 : decode prog_6_method_5_code 25 = .ok (.iastore, 1) := by decide +kernel
theorem d_Pe_open_26 : decode prog_6_method_5_code 26 = .ok (.aload_n 0, 1) := by decide +kernel
theorem d_Pe_open_27 : decode prog_6_method_5_code 27 = .ok (.getfield 33, 3) := by decide +kernel
theorem d_Pe_open_30 : decode prog_6_method_5_code 30 = .ok (.iconst 2, 1) := by decide +kernel
theorem d_Pe_open_31 : decode prog_6_method_5_code 31 = .ok (.iconst 4, 1) := by decide +kernel
theorem d_Pe_open_32 : decode prog_6_method_5_code 32 = .ok (.iastore, 1) := by decide +kernel
theorem d_Pe_open_33 : decode prog_6_method_5_code 33 = .ok (.aload_n 0, 1) := by decide +kernel
theorem d_Pe_open_34 : decode prog_6_method_5_code 34 = .ok (.getfield 33, 3) := by decide +kernel
theorem d_Pe_open_37 : decode prog_6_method_5_code 37 = .ok (.iconst 3, 1) := by decide +kernel
theorem d_Pe_open_38 : decode prog_6_method_5_code 38 = .ok (.bipush (100), 2) := by decide +kernel
theorem d_Pe_open_40 : decode prog_6_method_5_code 40 = .ok (.iastore, 1) := by decide +kernel
theorem d_Pe_open_41 : decode prog_6_method_5_code 41 = .ok (.aload_n 0, 1) := by decide +kernel
theorem d_Pe_open_42 : decode prog_6_method_5_code 42 = .ok (.getfield 33, 3) := by decide +kernel
theorem d_Pe_open_45 : decode prog_6_method_5_code 45 = .ok (.iconst 4, 1) := by decide +kernel
theorem d_Pe_open_46 : decode prog_6_method_5_code 46 = .ok (.bipush (9), 2) := by decide +kernel
theorem d_Pe_open_48 : decode prog_6_method_5_code 48 = .ok (.iastore, 1) := by decide +kernel
theorem d_Pe_open_49 : decode prog_6_method_5_code 49 = .ok (.aload_n 0, 1) := by decide +kernel
theorem d_Pe_open_50 : decode prog_6_method_5_code 50 = .ok (.getfield 33, 3) := by decide +kernel
theorem d_Pe_open_53 : decode prog_6_method_5_code 53 = .ok (.iconst 5, 1) := by decide +kernel
theorem d_Pe_open_54 : decode prog_6_method_5_code 54 = .ok (.bipush (7), 2) := by decide +kernel
theorem d_Pe_open_56 : decode prog_6_method_5_code 56 = .ok (.iastore, 1) := by decide +kernel
theorem d_Pe_open_57 : decode prog_6_method_5_code 57 = .ok (.aload_n 0, 1) := by decide +kernel
theorem d_Pe_open_58 : decode prog_6_method_5_code 58 = .ok (.aload_n 0, 1) := by decide +kernel
theorem d_Pe_open_59 : decode prog_6_method_5_code 59 = .ok (.getfield 33, 3) := by decide +kernel
theorem d_Pe_open_62 : decode prog_6_method_5_code 62 = .ok (.bipush (6), 2) := by decide +kernel
theorem d_Pe_open_64 : decode prog_6_method_5_code 64 = .ok (.invokevirtual 64, 3) := by decide +kernel
theorem d_Pe_open_67 : decode prog_6_method_5_code 67 = .ok (.pop, 1) := by decide +kernel
theorem d_Pe_open_68 : decode prog_6_method_5_code 68 = .ok (.return_, 1) := by decide +kernel
def F_Pe_open (N : Nat → Nat) (v0 : Nat) (σ : rs_Mem) (Q : rs_Mem → Prop) : Prop :=
  (∀ σ51 : rs_Mem, σ51 = rs_sI σ v0 6 (1 : Int32) → (∀ σ52 : rs_Mem, σ52 = rs_sI σ51 v0 7 (8 : Int32) → (vp_in (0 : Int32) (N (rs_R σ52 v0 14)) ∧ ∀ σ55 : rs_Mem, σ55 = rs_sI σ52 (rs_R σ52 v0 14) (0 : Int32).toNatClampNeg (6 : Int32) → (vp_in (1 : Int32) (N (rs_R σ55 v0 14)) ∧ ∀ σ58 : rs_Mem, σ58 = rs_sI σ55 (rs_R σ55 v0 14) (1 : Int32).toNatClampNeg (1 : Int32) → (vp_in (2 : Int32) (N (rs_R σ58 v0 14)) ∧ ∀ σ61 : rs_Mem, σ61 = rs_sI σ58 (rs_R σ58 v0 14) (2 : Int32).toNatClampNeg (4 : Int32) → (vp_in (3 : Int32) (N (rs_R σ61 v0 14)) ∧ ∀ σ64 : rs_Mem, σ64 = rs_sI σ61 (rs_R σ61 v0 14) (3 : Int32).toNatClampNeg (100 : Int32) → (vp_in (4 : Int32) (N (rs_R σ64 v0 14)) ∧ ∀ σ67 : rs_Mem, σ67 = rs_sI σ64 (rs_R σ64 v0 14) (4 : Int32).toNatClampNeg (9 : Int32) → (vp_in (5 : Int32) (N (rs_R σ67 v0 14)) ∧ ∀ σ70 : rs_Mem, σ70 = rs_sI σ67 (rs_R σ67 v0 14) (5 : Int32).toNatClampNeg (7 : Int32) → (F_Pe_send N v0 (rs_R σ70 v0 14) (6 : Int32) σ70 (fun x73 σ72 => (Q σ72)))))))))))
abbrev y_Pe_open : MethodName := ({ cls := "RouteSpeaker$Peer", name := "open", desc := "()V" } : Jvm.MethodName)
theorem rc_Pe_open : rs_Cal y_Pe_open prog_6_method_5_code 1 none 0 := ⟨tw_683, tw_7, by decide, by decide, by decide +kernel⟩
set_option maxRecDepth 20000 in
theorem J_Pe_open (l : Launch) {G : rs_G} {Bm : Nat} {S : rs_Shp} {v0 : Nat} {σ : rs_Mem} {Q : rs_Mem → Prop} (h_v0 : rs_Ok S 6 v0) (hF : F_Pe_open S.2.2 v0 σ Q) :
    Met l y_Pe_open (rs_ws y_Pe_open prog_6_method_5_code 1 none) { frames := 2, cells := 0, slots := 0, locals := 46 } (rs_P G Bm S σ [.ref (Bm + v0)]) (rs_Qv G Bm S Q) 0 0 (rs_A Bm) := by
  refine rs_met (own := "RouteSpeaker$Peer") (by decide) rfl (Nat.le_of_ble_eq_true rfl) (fun p e s m below meth c ls C hl hH hT hS => ?_)
  replace hl : lv_has ls 1 [(0, .ref (Bm + v0))] := hl
  have hx := C.1
  have hb := C.2.1
  unfold F_Pe_open at hF
  refine lv_aload_n hx hb d_Pe_open_0 rfl (lv_at hl 0 rfl) ?_
  refine lv_iconst hx hb d_Pe_open_1 ki_1 ?_
  refine rs_putI C hH hT hS h_v0 fk_6_6 rfl tw_266 d_Pe_open_2 (fun σ51 H locs eσ51 hH hT hS => ?_)
  replace hF := hF σ51 eσ51
  refine lv_aload_n hx hb d_Pe_open_5 rfl (lv_at hl 0 rfl) ?_
  refine lv_bipush hx hb d_Pe_open_6 kb_8 ?_
  refine rs_putI C hH hT hS h_v0 fk_6_7 rfl tw_268 d_Pe_open_8 (fun σ52 H locs eσ52 hH hT hS => ?_)
  replace hF := hF σ52 eσ52
  refine lv_aload_n hx hb d_Pe_open_11 rfl (lv_at hl 0 rfl) ?_
  refine rs_getR C hH hT h_v0 fk_6_14 tw_281 d_Pe_open_12 (fun h53 => ?_)
  refine lv_iconst hx hb d_Pe_open_15 ki_0 ?_
  refine lv_bipush hx hb d_Pe_open_16 kb_6 ?_
  obtain ⟨g54, hF⟩ := hF
  refine rs_iast C hH hT hS h53 g54 d_Pe_open_18 (fun σ55 H locs eσ55 hH hT hS => ?_)
  replace hF := hF σ55 eσ55
  refine lv_aload_n hx hb d_Pe_open_19 rfl (lv_at hl 0 rfl) ?_
  refine rs_getR C hH hT h_v0 fk_6_14 tw_281 d_Pe_open_20 (fun h56 => ?_)
  refine lv_iconst hx hb d_Pe_open_23 ki_1 ?_
  refine lv_iconst hx hb d_Pe_open_24 ki_1 ?_
  obtain ⟨g57, hF⟩ := hF
  refine rs_iast C hH hT hS h56 g57 d_Pe_open_25 (fun σ58 H locs eσ58 hH hT hS => ?_)
  replace hF := hF σ58 eσ58
  refine lv_aload_n hx hb d_Pe_open_26 rfl (lv_at hl 0 rfl) ?_
  refine rs_getR C hH hT h_v0 fk_6_14 tw_281 d_Pe_open_27 (fun h59 => ?_)
  refine lv_iconst hx hb d_Pe_open_30 ki_2 ?_
  refine lv_iconst hx hb d_Pe_open_31 ki_4 ?_
  obtain ⟨g60, hF⟩ := hF
  refine rs_iast C hH hT hS h59 g60 d_Pe_open_32 (fun σ61 H locs eσ61 hH hT hS => ?_)
  replace hF := hF σ61 eσ61
  refine lv_aload_n hx hb d_Pe_open_33 rfl (lv_at hl 0 rfl) ?_
  refine rs_getR C hH hT h_v0 fk_6_14 tw_281 d_Pe_open_34 (fun h62 => ?_)
  refine lv_iconst hx hb d_Pe_open_37 ki_3 ?_
  refine lv_bipush hx hb d_Pe_open_38 kb_100 ?_
  obtain ⟨g63, hF⟩ := hF
  refine rs_iast C hH hT hS h62 g63 d_Pe_open_40 (fun σ64 H locs eσ64 hH hT hS => ?_)
  replace hF := hF σ64 eσ64
  refine lv_aload_n hx hb d_Pe_open_41 rfl (lv_at hl 0 rfl) ?_
  refine rs_getR C hH hT h_v0 fk_6_14 tw_281 d_Pe_open_42 (fun h65 => ?_)
  refine lv_iconst hx hb d_Pe_open_45 ki_4 ?_
  refine lv_bipush hx hb d_Pe_open_46 kb_9 ?_
  obtain ⟨g66, hF⟩ := hF
  refine rs_iast C hH hT hS h65 g66 d_Pe_open_48 (fun σ67 H locs eσ67 hH hT hS => ?_)
  replace hF := hF σ67 eσ67
  refine lv_aload_n hx hb d_Pe_open_49 rfl (lv_at hl 0 rfl) ?_
  refine rs_getR C hH hT h_v0 fk_6_14 tw_281 d_Pe_open_50 (fun h68 => ?_)
  refine lv_iconst hx hb d_Pe_open_53 ki_5 ?_
  refine lv_bipush hx hb d_Pe_open_54 kb_7 ?_
  obtain ⟨g69, hF⟩ := hF
  refine rs_iast C hH hT hS h68 g69 d_Pe_open_56 (fun σ70 H locs eσ70 hH hT hS => ?_)
  replace hF := hF σ70 eσ70
  refine lv_aload_n hx hb d_Pe_open_57 rfl (lv_at hl 0 rfl) ?_
  refine lv_aload_n hx hb d_Pe_open_58 rfl (lv_at hl 0 rfl) ?_
  refine rs_getR C hH hT h_v0 fk_6_14 tw_281 d_Pe_open_59 (fun h71 => ?_)
  refine lv_bipush hx hb d_Pe_open_62 kb_6 ?_
  refine rs_ci (rs_runV C hH hT hl (J_Pe_send l h_v0 h71 hF) rc_Pe_send tw_351 tw_353 ts_0 h_v0 ⟨rfl, by decide, by decide⟩ rfl ⟨⟨rfl, rfl⟩, by decide, by decide, by decide⟩ (Nat.le_of_ble_eq_true rfl) rfl d_Pe_open_64) hS (fun x73 σ72 H locs hH hT hS hF => ?_)
  refine lv_pop hx hb d_Pe_open_67 rfl ?_
  exact rs_vret C hH hT hS hF d_Pe_open_68
/-! RouteSpeaker$Peer.end(II)V -/
theorem d_Pe_end_0 : decode prog_6_method_6_code 0 = .ok (.aload_n 0, 1) := by decide +kernel
theorem d_Pe_end_1 : decode prog_6_method_6_code 1 = .ok (.getfield 33, 3) := by decide +kernel
theorem d_Pe_end_4 : decode prog_6_method_6_code 4 = .ok (.iconst 0, 1) := by decide +kernel
theorem d_Pe_end_5 : decode prog_6_method_6_code 5 = .ok (.iconst 4, 1) := by decide +kernel
theorem d_Pe_end_6 : decode prog_6_method_6_code 6 = .ok (.iastore, 1) := by decide +kernel
theorem d_Pe_end_7 : decode prog_6_method_6_code 7 = .ok (.aload_n 0, 1) := by decide +kernel
theorem d_Pe_end_8 : decode prog_6_method_6_code 8 = .ok (.getfield 33, 3) := by decide +kernel
theorem d_Pe_end_11 : decode prog_6_method_6_code 11 = .ok (.iconst 1, 1) := by decide +kernel
theorem d_Pe_end_12 : decode prog_6_method_6_code 12 = .ok (.iconst 3, 1) := by decide +kernel
theorem d_Pe_end_13 : decode prog_6_method_6_code 13 = .ok (.iastore, 1) := by decide +kernel
theorem d_Pe_end_14 : decode prog_6_method_6_code 14 = .ok (.aload_n 0, 1) := by decide +kernel
theorem d_Pe_end_15 : decode prog_6_method_6_code 15 = .ok (.getfield 33, 3) := by decide +kernel
theorem d_Pe_end_18 : decode prog_6_method_6_code 18 = .ok (.iconst 2, 1) := by decide +kernel
theorem d_Pe_end_19 : decode prog_6_method_6_code 19 = .ok (.iload_n 1, 1) := by decide +kernel
theorem d_Pe_end_20 : decode prog_6_method_6_code 20 = .ok (.iastore, 1) := by decide +kernel
theorem d_Pe_end_21 : decode prog_6_method_6_code 21 = .ok (.aload_n 0, 1) := by decide +kernel
theorem d_Pe_end_22 : decode prog_6_method_6_code 22 = .ok (.getfield 33, 3) := by decide +kernel
theorem d_Pe_end_25 : decode prog_6_method_6_code 25 = .ok (.iconst 3, 1) := by decide +kernel
theorem d_Pe_end_26 : decode prog_6_method_6_code 26 = .ok (.iload_n 2, 1) := by decide +kernel
theorem d_Pe_end_27 : decode prog_6_method_6_code 27 = .ok (.iastore, 1) := by decide +kernel
theorem d_Pe_end_28 : decode prog_6_method_6_code 28 = .ok (.aload_n 0, 1) := by decide +kernel
theorem d_Pe_end_29 : decode prog_6_method_6_code 29 = .ok (.aload_n 0, 1) := by decide +kernel
theorem d_Pe_end_30 : decode prog_6_method_6_code 30 = .ok (.getfield 33, 3) := by decide +kernel
theorem d_Pe_end_33 : decode prog_6_method_6_code 33 = .ok (.iconst 4, 1) := by decide +kernel
theorem d_Pe_end_34 : decode prog_6_method_6_code 34 = .ok (.invokevirtual 64, 3) := by decide +kernel
theorem d_Pe_end_37 : decode prog_6_method_6_code 37 = .ok (.pop, 1) := by decide +kernel
theorem d_Pe_end_38 : decode prog_6_method_6_code 38 = .ok (.aload_n 0, 1) := by decide +kernel
theorem d_Pe_end_39 : decode prog_6_method_6_code 39 = .ok (.invokevirtual 68, 3) := by decide +kernel
theorem d_Pe_end_42 : decode prog_6_method_6_code 42 = .ok (.return_, 1) := by decide +kernel
def F_Pe_end (N : Nat → Nat) (v0 : Nat) (x1 : Int32) (x2 : Int32) (σ : rs_Mem) (Q : rs_Mem → Prop) : Prop :=
  (vp_in (0 : Int32) (N (rs_R σ v0 14)) ∧ ∀ σ53 : rs_Mem, σ53 = rs_sI σ (rs_R σ v0 14) (0 : Int32).toNatClampNeg (4 : Int32) → (vp_in (1 : Int32) (N (rs_R σ53 v0 14)) ∧ ∀ σ56 : rs_Mem, σ56 = rs_sI σ53 (rs_R σ53 v0 14) (1 : Int32).toNatClampNeg (3 : Int32) → (vp_in (2 : Int32) (N (rs_R σ56 v0 14)) ∧ ∀ σ59 : rs_Mem, σ59 = rs_sI σ56 (rs_R σ56 v0 14) (2 : Int32).toNatClampNeg x1 → (vp_in (3 : Int32) (N (rs_R σ59 v0 14)) ∧ ∀ σ62 : rs_Mem, σ62 = rs_sI σ59 (rs_R σ59 v0 14) (3 : Int32).toNatClampNeg x2 → (F_Pe_send N v0 (rs_R σ62 v0 14) (4 : Int32) σ62 (fun x65 σ64 => (F_Pe_close N v0 σ64 (fun σ66 => (Q σ66)))))))))
abbrev y_Pe_end : MethodName := ({ cls := "RouteSpeaker$Peer", name := "end", desc := "(II)V" } : Jvm.MethodName)
theorem rc_Pe_end : rs_Cal y_Pe_end prog_6_method_6_code 3 none 2 := ⟨tw_350, tw_7, by decide, by decide, by decide +kernel⟩
set_option maxRecDepth 20000 in
theorem J_Pe_end (l : Launch) {G : rs_G} {Bm : Nat} {S : rs_Shp} {v0 : Nat} {x1 : Int32} {x2 : Int32} {σ : rs_Mem} {Q : rs_Mem → Prop} (h_v0 : rs_Ok S 6 v0) (hF : F_Pe_end S.2.2 v0 x1 x2 σ Q) :
    Met l y_Pe_end (rs_ws y_Pe_end prog_6_method_6_code 3 none) { frames := 2, cells := 0, slots := 0, locals := 46 } (rs_P G Bm S σ [.ref (Bm + v0), .int x1, .int x2]) (rs_Qv G Bm S Q) 0 0 (rs_A Bm) := by
  refine rs_met (own := "RouteSpeaker$Peer") (by decide) rfl (Nat.le_of_ble_eq_true rfl) (fun p e s m below meth c ls C hl hH hT hS => ?_)
  replace hl : lv_has ls 3 [(0, .ref (Bm + v0)), (1, .int x1), (2, .int x2)] := hl
  have hx := C.1
  have hb := C.2.1
  unfold F_Pe_end at hF
  refine lv_aload_n hx hb d_Pe_end_0 rfl (lv_at hl 0 rfl) ?_
  refine rs_getR C hH hT h_v0 fk_6_14 tw_281 d_Pe_end_1 (fun h51 => ?_)
  refine lv_iconst hx hb d_Pe_end_4 ki_0 ?_
  refine lv_iconst hx hb d_Pe_end_5 ki_4 ?_
  obtain ⟨g52, hF⟩ := hF
  refine rs_iast C hH hT hS h51 g52 d_Pe_end_6 (fun σ53 H locs eσ53 hH hT hS => ?_)
  replace hF := hF σ53 eσ53
  refine lv_aload_n hx hb d_Pe_end_7 rfl (lv_at hl 0 rfl) ?_
  refine rs_getR C hH hT h_v0 fk_6_14 tw_281 d_Pe_end_8 (fun h54 => ?_)
  refine lv_iconst hx hb d_Pe_end_11 ki_1 ?_
  refine lv_iconst hx hb d_Pe_end_12 ki_3 ?_
  obtain ⟨g55, hF⟩ := hF
  refine rs_iast C hH hT hS h54 g55 d_Pe_end_13 (fun σ56 H locs eσ56 hH hT hS => ?_)
  replace hF := hF σ56 eσ56
  refine lv_aload_n hx hb d_Pe_end_14 rfl (lv_at hl 0 rfl) ?_
  refine rs_getR C hH hT h_v0 fk_6_14 tw_281 d_Pe_end_15 (fun h57 => ?_)
  refine lv_iconst hx hb d_Pe_end_18 ki_2 ?_
  refine lv_iload_n hx hb d_Pe_end_19 rfl (lv_at hl 1 rfl) ?_
  obtain ⟨g58, hF⟩ := hF
  refine rs_iast C hH hT hS h57 g58 d_Pe_end_20 (fun σ59 H locs eσ59 hH hT hS => ?_)
  replace hF := hF σ59 eσ59
  refine lv_aload_n hx hb d_Pe_end_21 rfl (lv_at hl 0 rfl) ?_
  refine rs_getR C hH hT h_v0 fk_6_14 tw_281 d_Pe_end_22 (fun h60 => ?_)
  refine lv_iconst hx hb d_Pe_end_25 ki_3 ?_
  refine lv_iload_n hx hb d_Pe_end_26 rfl (lv_at hl 2 rfl) ?_
  obtain ⟨g61, hF⟩ := hF
  refine rs_iast C hH hT hS h60 g61 d_Pe_end_27 (fun σ62 H locs eσ62 hH hT hS => ?_)
  replace hF := hF σ62 eσ62
  refine lv_aload_n hx hb d_Pe_end_28 rfl (lv_at hl 0 rfl) ?_
  refine lv_aload_n hx hb d_Pe_end_29 rfl (lv_at hl 0 rfl) ?_
  refine rs_getR C hH hT h_v0 fk_6_14 tw_281 d_Pe_end_30 (fun h63 => ?_)
  refine lv_iconst hx hb d_Pe_end_33 ki_4 ?_
  refine rs_ci (rs_runV C hH hT hl (J_Pe_send l h_v0 h63 hF) rc_Pe_send tw_351 tw_353 ts_0 h_v0 ⟨rfl, by decide, by decide⟩ rfl ⟨⟨rfl, rfl⟩, by decide, by decide, by decide⟩ (Nat.le_of_ble_eq_true rfl) rfl d_Pe_end_34) hS (fun x65 σ64 H locs hH hT hS hF => ?_)
  refine lv_pop hx hb d_Pe_end_37 rfl ?_
  refine lv_aload_n hx hb d_Pe_end_38 rfl (lv_at hl 0 rfl) ?_
  refine rs_cv (rs_runV C hH hT hl (J_Pe_close l h_v0 hF) rc_Pe_close tw_359 tw_361 ts_1 h_v0 ⟨rfl, by decide, by decide⟩ rfl ⟨⟨rfl, rfl⟩, by decide, by decide, by decide⟩ (Nat.le_of_ble_eq_true rfl) rfl d_Pe_end_39) hS (fun σ66 H locs hH hT hS hF => ?_)
  exact rs_vret C hH hT hS hF d_Pe_end_42
/-! RouteSpeaker$Peer.takeByte(I)Z -/
theorem d_Pe_takeByte_0 : decode prog_6_method_7_code 0 = .ok (.aload_n 0, 1) := by decide +kernel
theorem d_Pe_takeByte_1 : decode prog_6_method_7_code 1 = .ok (.getfield 51, 3) := by decide +kernel
theorem d_Pe_takeByte_4 : decode prog_6_method_7_code 4 = .ok (.ifCond .eq (12), 3) := by decide +kernel
theorem d_Pe_takeByte_7 : decode prog_6_method_7_code 7 = .ok (.aload_n 0, 1) := by decide +kernel
theorem d_Pe_takeByte_8 : decode prog_6_method_7_code 8 = .ok (.getfield 71, 3) := by decide +kernel
theorem d_Pe_takeByte_11 : decode prog_6_method_7_code 11 = .ok (.bipush (60), 2) := by decide +kernel
theorem d_Pe_takeByte_13 : decode prog_6_method_7_code 13 = .ok (.if_icmp .lt (5), 3) := by decide +kernel
theorem d_Pe_takeByte_16 : decode prog_6_method_7_code 16 = .ok (.iconst 0, 1) := by decide +kernel
theorem d_Pe_takeByte_17 : decode prog_6_method_7_code 17 = .ok (.ireturn, 1) := by decide +kernel
theorem d_Pe_takeByte_18 : decode prog_6_method_7_code 18 = .ok (.aload_n 0, 1) := by decide +kernel
theorem d_Pe_takeByte_19 : decode prog_6_method_7_code 19 = .ok (.getfield 22, 3) := by decide +kernel
theorem d_Pe_takeByte_22 : decode prog_6_method_7_code 22 = .ok (.aload_n 0, 1) := by decide +kernel
theorem d_Pe_takeByte_23 : decode prog_6_method_7_code 23 = .ok (.getfield 71, 3) := by decide +kernel
theorem d_Pe_takeByte_26 : decode prog_6_method_7_code 26 = .ok (.iload_n 1, 1) := by decide +kernel
theorem d_Pe_takeByte_27 : decode prog_6_method_7_code 27 = .ok (.iastore, 1) := by decide +kernel
theorem d_Pe_takeByte_28 : decode prog_6_method_7_code 28 = .ok (.aload_n 0, 1) := by decide +kernel
theorem d_Pe_takeByte_29 : decode prog_6_method_7_code 29 = .ok (.dup, 1) := by decide +kernel
theorem d_Pe_takeByte_30 : decode prog_6_method_7_code 30 = .ok (.getfield 71, 3) := by decide +kernel
theorem d_Pe_takeByte_33 : decode prog_6_method_7_code 33 = .ok (.iconst 1, 1) := by decide +kernel
theorem d_Pe_takeByte_34 : decode prog_6_method_7_code 34 = .ok (.iadd, 1) := by decide +kernel
theorem d_Pe_takeByte_35 : decode prog_6_method_7_code 35 = .ok (.putfield 71, 3) := by decide +kernel
theorem d_Pe_takeByte_38 : decode prog_6_method_7_code 38 = .ok (.aload_n 0, 1) := by decide +kernel
theorem d_Pe_takeByte_39 : decode prog_6_method_7_code 39 = .ok (.getfield 22, 3) := by decide +kernel
theorem d_Pe_takeByte_42 : decode prog_6_method_7_code 42 = .ok (.iconst 0, 1) := by decide +kernel
theorem d_Pe_takeByte_43 : decode prog_6_method_7_code 43 = .ok (.iaload, 1) := by decide +kernel
theorem d_Pe_takeByte_44 : decode prog_6_method_7_code 44 = .ok (.iconst 2, 1) := by decide +kernel
theorem d_Pe_takeByte_45 : decode prog_6_method_7_code 45 = .ok (.if_icmp .lt (27), 3) := by decide +kernel
theorem d_Pe_takeByte_48 : decode prog_6_method_7_code 48 = .ok (.aload_n 0, 1) := by decide +kernel
theorem d_Pe_takeByte_49 : decode prog_6_method_7_code 49 = .ok (.getfield 22, 3) := by decide +kernel
theorem d_Pe_takeByte_52 : decode prog_6_method_7_code 52 = .ok (.iconst 0, 1) := by decide +kernel
theorem d_Pe_takeByte_53 : decode prog_6_method_7_code 53 = .ok (.iaload, 1) := by decide +kernel
theorem d_Pe_takeByte_54 : decode prog_6_method_7_code 54 = .ok (.bipush (60), 2) := by decide +kernel
theorem d_Pe_takeByte_56 : decode prog_6_method_7_code 56 = .ok (.if_icmp .gt (16), 3) := by decide +kernel
theorem d_Pe_takeByte_59 : decode prog_6_method_7_code 59 = .ok (.aload_n 0, 1) := by decide +kernel
theorem d_Pe_takeByte_60 : decode prog_6_method_7_code 60 = .ok (.getfield 71, 3) := by decide +kernel
theorem d_Pe_takeByte_63 : decode prog_6_method_7_code 63 = .ok (.aload_n 0, 1) := by decide +kernel
theorem d_Pe_takeByte_64 : decode prog_6_method_7_code 64 = .ok (.getfield 22, 3) := by decide +kernel
theorem d_Pe_takeByte_67 : decode prog_6_method_7_code 67 = .ok (.iconst 0, 1) := by decide +kernel
theorem d_Pe_takeByte_68 : decode prog_6_method_7_code 68 = .ok (.iaload, 1) := by decide +kernel
theorem d_Pe_takeByte_69 : decode prog_6_method_7_code 69 = .ok (.if_icmp .ne (7), 3) := by decide +kernel
theorem d_Pe_takeByte_72 : decode prog_6_method_7_code 72 = .ok (.iconst 1, 1) := by decide +kernel
theorem d_Pe_takeByte_73 : decode prog_6_method_7_code 73 = .ok (.goto (4), 3) := by decide +kernel
theorem d_Pe_takeByte_76 : decode prog_6_method_7_code 76 = .ok (.iconst 0, 1) := by decide +kernel
theorem d_Pe_takeByte_77 : decode prog_6_method_7_code 77 = .ok (.ireturn, 1) := by decide +kernel
def F_Pe_takeByte (N : Nat → Nat) (v0 : Nat) (x1 : Int32) (σ : rs_Mem) (Q : Int32 → rs_Mem → Prop) : Prop :=
  (((rs_I σ v0 6) = 0 → (Q (0 : Int32) σ)) ∧ (¬ ((rs_I σ v0 6) = 0) → (((rs_I σ v0 11) < (60 : Int32) → (vp_in (rs_I σ v0 11) (N (rs_R σ v0 12)) ∧ ∀ σ53 : rs_Mem, σ53 = rs_sI σ (rs_R σ v0 12) (rs_I σ v0 11).toNatClampNeg x1 → (∀ σ54 : rs_Mem, σ54 = rs_sI σ53 v0 11 ((rs_I σ53 v0 11) + (1 : Int32)) → (vp_in (0 : Int32) (N (rs_R σ54 v0 12)) ∧ (((rs_I σ54 (rs_R σ54 v0 12) (0 : Int32).toNatClampNeg) < (2 : Int32) → (Q (1 : Int32) σ54)) ∧ (¬ ((rs_I σ54 (rs_R σ54 v0 12) (0 : Int32).toNatClampNeg) < (2 : Int32)) → (vp_in (0 : Int32) (N (rs_R σ54 v0 12)) ∧ (((60 : Int32) < (rs_I σ54 (rs_R σ54 v0 12) (0 : Int32).toNatClampNeg) → (Q (1 : Int32) σ54)) ∧ (¬ ((60 : Int32) < (rs_I σ54 (rs_R σ54 v0 12) (0 : Int32).toNatClampNeg)) → (vp_in (0 : Int32) (N (rs_R σ54 v0 12)) ∧ ((¬ ((rs_I σ54 v0 11) = (rs_I σ54 (rs_R σ54 v0 12) (0 : Int32).toNatClampNeg)) → (Q (0 : Int32) σ54)) ∧ ((rs_I σ54 v0 11) = (rs_I σ54 (rs_R σ54 v0 12) (0 : Int32).toNatClampNeg) → (Q (1 : Int32) σ54))))))))))))) ∧ (¬ ((rs_I σ v0 11) < (60 : Int32)) → (Q (0 : Int32) σ)))))
abbrev y_Pe_takeByte : MethodName := ({ cls := "RouteSpeaker$Peer", name := "takeByte", desc := "(I)Z" } : Jvm.MethodName)
theorem rc_Pe_takeByte : rs_Cal y_Pe_takeByte prog_6_method_7_code 2 (some .boolean) 1 := ⟨tw_702, tw_7, by decide, by decide, by decide +kernel⟩
set_option maxRecDepth 20000 in
theorem J_Pe_takeByte (l : Launch) {G : rs_G} {Bm : Nat} {S : rs_Shp} {v0 : Nat} {x1 : Int32} {σ : rs_Mem} {Q : Int32 → rs_Mem → Prop} (h_v0 : rs_Ok S 6 v0) (hF : F_Pe_takeByte S.2.2 v0 x1 σ Q) :
    Met l y_Pe_takeByte (rs_ws y_Pe_takeByte prog_6_method_7_code 2 (some .boolean)) { frames := 0, cells := 0, slots := 0, locals := 0 } (rs_P G Bm S σ [.ref (Bm + v0), .int x1]) (rs_Qi G Bm S Q) 0 0 (rs_A Bm) := by
  refine rs_met (own := "RouteSpeaker$Peer") (by decide) rfl (Nat.le_of_ble_eq_true rfl) (fun p e s m below meth c ls C hl hH hT hS => ?_)
  replace hl : lv_has ls 2 [(0, .ref (Bm + v0)), (1, .int x1)] := hl
  have hx := C.1
  have hb := C.2.1
  unfold F_Pe_takeByte at hF
  refine lv_aload_n hx hb d_Pe_takeByte_0 rfl (lv_at hl 0 rfl) ?_
  refine rs_getI C hH h_v0 fk_6_6 tw_266 d_Pe_takeByte_1 ?_
  refine lv_if_eq hx hb d_Pe_takeByte_4 (tgt := 16) rfl (fun hc => ?_) (fun hc => ?_)
  · replace hF := hF.1 hc
    refine lv_iconst hx hb d_Pe_takeByte_16 ki_0 ?_
    exact rs_zret C hH hT hS (by decide) hF d_Pe_takeByte_17
  · replace hF := hF.2 hc
    refine lv_aload_n hx hb d_Pe_takeByte_7 rfl (lv_at hl 0 rfl) ?_
    refine rs_getI C hH h_v0 fk_6_11 tw_276 d_Pe_takeByte_8 ?_
    refine lv_bipush hx hb d_Pe_takeByte_11 kb_60 ?_
    refine lv_icmp_lt hx hb d_Pe_takeByte_13 (tgt := 18) rfl (fun hc => ?_) (fun hc => ?_)
    · replace hF := hF.1 hc
      refine lv_aload_n hx hb d_Pe_takeByte_18 rfl (lv_at hl 0 rfl) ?_
      refine rs_getR C hH hT h_v0 fk_6_12 tw_278 d_Pe_takeByte_19 (fun h51 => ?_)
      refine lv_aload_n hx hb d_Pe_takeByte_22 rfl (lv_at hl 0 rfl) ?_
      refine rs_getI C hH h_v0 fk_6_11 tw_276 d_Pe_takeByte_23 ?_
      refine lv_iload_n hx hb d_Pe_takeByte_26 rfl (lv_at hl 1 rfl) ?_
      obtain ⟨g52, hF⟩ := hF
      refine rs_iast C hH hT hS h51 g52 d_Pe_takeByte_27 (fun σ53 H locs eσ53 hH hT hS => ?_)
      replace hF := hF σ53 eσ53
      refine lv_aload_n hx hb d_Pe_takeByte_28 rfl (lv_at hl 0 rfl) ?_
      refine lv_dup hx hb d_Pe_takeByte_29 rfl ?_
      refine rs_getI C hH h_v0 fk_6_11 tw_276 d_Pe_takeByte_30 ?_
      refine lv_iconst hx hb d_Pe_takeByte_33 ki_1 ?_
      refine lv_iadd hx hb d_Pe_takeByte_34 ?_
      refine rs_putI C hH hT hS h_v0 fk_6_11 rfl tw_276 d_Pe_takeByte_35 (fun σ54 H locs eσ54 hH hT hS => ?_)
      replace hF := hF σ54 eσ54
      refine lv_aload_n hx hb d_Pe_takeByte_38 rfl (lv_at hl 0 rfl) ?_
      refine rs_getR C hH hT h_v0 fk_6_12 tw_278 d_Pe_takeByte_39 (fun h55 => ?_)
      refine lv_iconst hx hb d_Pe_takeByte_42 ki_0 ?_
      obtain ⟨g56, hF⟩ := hF
      refine rs_iald C hH h55 g56 d_Pe_takeByte_43 ?_
      refine lv_iconst hx hb d_Pe_takeByte_44 ki_2 ?_
      refine lv_icmp_lt hx hb d_Pe_takeByte_45 (tgt := 72) rfl (fun hc => ?_) (fun hc => ?_)
      · replace hF := hF.1 hc
        refine lv_iconst hx hb d_Pe_takeByte_72 ki_1 ?_
        refine lv_goto hx hb d_Pe_takeByte_73 (tgt := 77) rfl ?_
        exact rs_zret C hH hT hS (by decide) hF d_Pe_takeByte_77
      · replace hF := hF.2 hc
        refine lv_aload_n hx hb d_Pe_takeByte_48 rfl (lv_at hl 0 rfl) ?_
        refine rs_getR C hH hT h_v0 fk_6_12 tw_278 d_Pe_takeByte_49 (fun h57 => ?_)
        refine lv_iconst hx hb d_Pe_takeByte_52 ki_0 ?_
        obtain ⟨g58, hF⟩ := hF
        refine rs_iald C hH h57 g58 d_Pe_takeByte_53 ?_
        refine lv_bipush hx hb d_Pe_takeByte_54 kb_60 ?_
        refine lv_icmp_gt hx hb d_Pe_takeByte_56 (tgt := 72) rfl (fun hc => ?_) (fun hc => ?_)
        · replace hF := hF.1 hc
          refine lv_iconst hx hb d_Pe_takeByte_72 ki_1 ?_
          refine lv_goto hx hb d_Pe_takeByte_73 (tgt := 77) rfl ?_
          exact rs_zret C hH hT hS (by decide) hF d_Pe_takeByte_77
        · replace hF := hF.2 hc
          refine lv_aload_n hx hb d_Pe_takeByte_59 rfl (lv_at hl 0 rfl) ?_
          refine rs_getI C hH h_v0 fk_6_11 tw_276 d_Pe_takeByte_60 ?_
          refine lv_aload_n hx hb d_Pe_takeByte_63 rfl (lv_at hl 0 rfl) ?_
          refine rs_getR C hH hT h_v0 fk_6_12 tw_278 d_Pe_takeByte_64 (fun h59 => ?_)
          refine lv_iconst hx hb d_Pe_takeByte_67 ki_0 ?_
          obtain ⟨g60, hF⟩ := hF
          refine rs_iald C hH h59 g60 d_Pe_takeByte_68 ?_
          refine lv_icmp_ne hx hb d_Pe_takeByte_69 (tgt := 76) rfl (fun hc => ?_) (fun hc => ?_)
          · replace hF := hF.1 hc
            refine lv_iconst hx hb d_Pe_takeByte_76 ki_0 ?_
            exact rs_zret C hH hT hS (by decide) hF d_Pe_takeByte_77
          · replace hF := hF.2 hc
            refine lv_iconst hx hb d_Pe_takeByte_72 ki_1 ?_
            refine lv_goto hx hb d_Pe_takeByte_73 (tgt := 77) rfl ?_
            exact rs_zret C hH hT hS (by decide) hF d_Pe_takeByte_77
    · replace hF := hF.2 hc
      refine lv_iconst hx hb d_Pe_takeByte_16 ki_0 ?_
      exact rs_zret C hH hT hS (by decide) hF d_Pe_takeByte_17
/-! RouteSpeaker$Peer.isSizeOf(II)Z -/
theorem d_Pe_isSizeOf_0 : decode prog_6_method_16_code 0 = .ok (.iload_n 0, 1) := by decide +kernel
theorem d_Pe_isSizeOf_1 : decode prog_6_method_16_code 1 = .ok (.tableswitch (61) (1) (3) #[27, 39, 50], 27) := by decide +kernel
theorem d_Pe_isSizeOf_28 : decode prog_6_method_16_code 28 = .ok (.iload_n 1, 1) := by decide +kernel
theorem d_Pe_isSizeOf_29 : decode prog_6_method_16_code 29 = .ok (.bipush (6), 2) := by decide +kernel
theorem d_Pe_isSizeOf_31 : decode prog_6_method_16_code 31 = .ok (.if_icmp .ne (7), 3) := by decide +kernel
theorem d_Pe_isSizeOf_34 : decode prog_6_method_16_code 34 = .ok (.iconst 1, 1) := by decide +kernel
theorem d_Pe_isSizeOf_35 : decode prog_6_method_16_code 35 = .ok (.goto (4), 3) := by decide +kernel
theorem d_Pe_isSizeOf_38 : decode prog_6_method_16_code 38 = .ok (.iconst 0, 1) := by decide +kernel
theorem d_Pe_isSizeOf_39 : decode prog_6_method_16_code 39 = .ok (.ireturn, 1) := by decide +kernel
theorem d_Pe_isSizeOf_40 : decode prog_6_method_16_code 40 = .ok (.iload_n 1, 1) := by decide +kernel
theorem d_Pe_isSizeOf_41 : decode prog_6_method_16_code 41 = .ok (.iconst 4, 1) := by decide +kernel
theorem d_Pe_isSizeOf_42 : decode prog_6_method_16_code 42 = .ok (.if_icmp .lt (7), 3) := by decide +kernel
theorem d_Pe_isSizeOf_45 : decode prog_6_method_16_code 45 = .ok (.iconst 1, 1) := by decide +kernel
theorem d_Pe_isSizeOf_46 : decode prog_6_method_16_code 46 = .ok (.goto (4), 3) := by decide +kernel
theorem d_Pe_isSizeOf_49 : decode prog_6_method_16_code 49 = .ok (.iconst 0, 1) := by decide +kernel
theorem d_Pe_isSizeOf_50 : decode prog_6_method_16_code 50 = .ok (.ireturn, 1) := by decide +kernel
theorem d_Pe_isSizeOf_51 : decode prog_6_method_16_code 51 = .ok (.iload_n 1, 1) := by decide +kernel
theorem d_Pe_isSizeOf_52 : decode prog_6_method_16_code 52 = .ok (.iconst 4, 1) := by decide +kernel
theorem d_Pe_isSizeOf_53 : decode prog_6_method_16_code 53 = .ok (.if_icmp .ne (7), 3) := by decide +kernel
theorem d_Pe_isSizeOf_56 : decode prog_6_method_16_code 56 = .ok (.iconst 1, 1) := by decide +kernel
theorem d_Pe_isSizeOf_57 : decode prog_6_method_16_code 57 = .ok (.goto (4), 3) := by decide +kernel
theorem d_Pe_isSizeOf_60 : decode prog_6_method_16_code 60 = .ok (.iconst 0, 1) := by decide +kernel
theorem d_Pe_isSizeOf_61 : decode prog_6_method_16_code 61 = .ok (.ireturn, 1) := by decide +kernel
theorem d_Pe_isSizeOf_62 : decode prog_6_method_16_code 62 = .ok (.iload_n 1, 1) := by decide +kernel
theorem d_Pe_isSizeOf_63 : decode prog_6_method_16_code 63 = .ok (.iconst 2, 1) := by decide +kernel
theorem d_Pe_isSizeOf_64 : decode prog_6_method_16_code 64 = .ok (.if_icmp .ne (7), 3) := by decide +kernel
theorem d_Pe_isSizeOf_67 : decode prog_6_method_16_code 67 = .ok (.iconst 1, 1) := by decide +kernel
theorem d_Pe_isSizeOf_68 : decode prog_6_method_16_code 68 = .ok (.goto (4), 3) := by decide +kernel
theorem d_Pe_isSizeOf_71 : decode prog_6_method_16_code 71 = .ok (.iconst 0, 1) := by decide +kernel
theorem d_Pe_isSizeOf_72 : decode prog_6_method_16_code 72 = .ok (.ireturn, 1) := by decide +kernel
def F_Pe_isSizeOf (N : Nat → Nat) (x0 : Int32) (x1 : Int32) (σ : rs_Mem) (Q : Int32 → rs_Mem → Prop) : Prop :=
  (((x0.toInt < 1 ∨ 3 < x0.toInt) → ((¬ (x1 = (2 : Int32)) → (Q (0 : Int32) σ)) ∧ (x1 = (2 : Int32) → (Q (1 : Int32) σ)))) ∧ (x0 = 1 → ((¬ (x1 = (6 : Int32)) → (Q (0 : Int32) σ)) ∧ (x1 = (6 : Int32) → (Q (1 : Int32) σ)))) ∧ (x0 = 2 → ((x1 < (4 : Int32) → (Q (0 : Int32) σ)) ∧ (¬ (x1 < (4 : Int32)) → (Q (1 : Int32) σ)))) ∧ (x0 = 3 → ((¬ (x1 = (4 : Int32)) → (Q (0 : Int32) σ)) ∧ (x1 = (4 : Int32) → (Q (1 : Int32) σ)))))
abbrev y_Pe_isSizeOf : MethodName := ({ cls := "RouteSpeaker$Peer", name := "isSizeOf", desc := "(II)Z" } : Jvm.MethodName)
theorem rc_Pe_isSizeOf : rs_Cal y_Pe_isSizeOf prog_6_method_16_code 2 (some .boolean) 2 := ⟨tw_709, tw_7, by decide, by decide, by decide +kernel⟩
set_option maxRecDepth 20000 in
theorem J_Pe_isSizeOf (l : Launch) {G : rs_G} {Bm : Nat} {S : rs_Shp} {x0 : Int32} {x1 : Int32} {σ : rs_Mem} {Q : Int32 → rs_Mem → Prop} (hF : F_Pe_isSizeOf S.2.2 x0 x1 σ Q) :
    Met l y_Pe_isSizeOf (rs_ws y_Pe_isSizeOf prog_6_method_16_code 2 (some .boolean)) { frames := 0, cells := 0, slots := 0, locals := 0 } (rs_P G Bm S σ [.int x0, .int x1]) (rs_Qi G Bm S Q) 0 0 (rs_A Bm) := by
  refine rs_met (own := "RouteSpeaker$Peer") (by decide) rfl (Nat.le_of_ble_eq_true rfl) (fun p e s m below meth c ls C hl hH hT hS => ?_)
  replace hl : lv_has ls 2 [(0, .int x0), (1, .int x1)] := hl
  have hx := C.1
  have hb := C.2.1
  unfold F_Pe_isSizeOf at hF
  refine lv_iload_n hx hb d_Pe_isSizeOf_0 rfl (lv_at hl 0 rfl) ?_
  rcases rs_sw_1_3 x0 with hc | hc | hc | hc
  · replace hF := hF.1 hc
    refine lv_tableOut hx hb d_Pe_isSizeOf_1 hc (tgt := 62) rfl ?_
    refine lv_iload_n hx hb d_Pe_isSizeOf_62 rfl (lv_at hl 1 rfl) ?_
    refine lv_iconst hx hb d_Pe_isSizeOf_63 ki_2 ?_
    refine lv_icmp_ne hx hb d_Pe_isSizeOf_64 (tgt := 71) rfl (fun hc => ?_) (fun hc => ?_)
    · replace hF := hF.1 hc
      refine lv_iconst hx hb d_Pe_isSizeOf_71 ki_0 ?_
      exact rs_zret C hH hT hS (by decide) hF d_Pe_isSizeOf_72
    · replace hF := hF.2 hc
      refine lv_iconst hx hb d_Pe_isSizeOf_67 ki_1 ?_
      refine lv_goto hx hb d_Pe_isSizeOf_68 (tgt := 72) rfl ?_
      exact rs_zret C hH hT hS (by decide) hF d_Pe_isSizeOf_72
  · replace hF := hF.2.1 hc
    refine lv_tableIn hx hb d_Pe_isSizeOf_1 (by rw [hc]; decide) (by rw [hc]; decide) (off := 27) (by rw [hc]; rfl) (tgt := 28) rfl ?_
    refine lv_iload_n hx hb d_Pe_isSizeOf_28 rfl (lv_at hl 1 rfl) ?_
    refine lv_bipush hx hb d_Pe_isSizeOf_29 kb_6 ?_
    refine lv_icmp_ne hx hb d_Pe_isSizeOf_31 (tgt := 38) rfl (fun hc => ?_) (fun hc => ?_)
    · replace hF := hF.1 hc
      refine lv_iconst hx hb d_Pe_isSizeOf_38 ki_0 ?_
      exact rs_zret C hH hT hS (by decide) hF d_Pe_isSizeOf_39
    · replace hF := hF.2 hc
      refine lv_iconst hx hb d_Pe_isSizeOf_34 ki_1 ?_
      refine lv_goto hx hb d_Pe_isSizeOf_35 (tgt := 39) rfl ?_
      exact rs_zret C hH hT hS (by decide) hF d_Pe_isSizeOf_39
  · replace hF := hF.2.2.1 hc
    refine lv_tableIn hx hb d_Pe_isSizeOf_1 (by rw [hc]; decide) (by rw [hc]; decide) (off := 39) (by rw [hc]; rfl) (tgt := 40) rfl ?_
    refine lv_iload_n hx hb d_Pe_isSizeOf_40 rfl (lv_at hl 1 rfl) ?_
    refine lv_iconst hx hb d_Pe_isSizeOf_41 ki_4 ?_
    refine lv_icmp_lt hx hb d_Pe_isSizeOf_42 (tgt := 49) rfl (fun hc => ?_) (fun hc => ?_)
    · replace hF := hF.1 hc
      refine lv_iconst hx hb d_Pe_isSizeOf_49 ki_0 ?_
      exact rs_zret C hH hT hS (by decide) hF d_Pe_isSizeOf_50
    · replace hF := hF.2 hc
      refine lv_iconst hx hb d_Pe_isSizeOf_45 ki_1 ?_
      refine lv_goto hx hb d_Pe_isSizeOf_46 (tgt := 50) rfl ?_
      exact rs_zret C hH hT hS (by decide) hF d_Pe_isSizeOf_50
  · replace hF := hF.2.2.2 hc
    refine lv_tableIn hx hb d_Pe_isSizeOf_1 (by rw [hc]; decide) (by rw [hc]; decide) (off := 50) (by rw [hc]; rfl) (tgt := 51) rfl ?_
    refine lv_iload_n hx hb d_Pe_isSizeOf_51 rfl (lv_at hl 1 rfl) ?_
    refine lv_iconst hx hb d_Pe_isSizeOf_52 ki_4 ?_
    refine lv_icmp_ne hx hb d_Pe_isSizeOf_53 (tgt := 60) rfl (fun hc => ?_) (fun hc => ?_)
    · replace hF := hF.1 hc
      refine lv_iconst hx hb d_Pe_isSizeOf_60 ki_0 ?_
      exact rs_zret C hH hT hS (by decide) hF d_Pe_isSizeOf_61
    · replace hF := hF.2 hc
      refine lv_iconst hx hb d_Pe_isSizeOf_56 ki_1 ?_
      refine lv_goto hx hb d_Pe_isSizeOf_57 (tgt := 61) rfl ?_
      exact rs_zret C hH hT hS (by decide) hF d_Pe_isSizeOf_61
