/-! RouteSpeakerModel.same(II)Z -/
theorem d_Mo_same_0 : decode prog_12_method_40_code 0 = .ok (.aload_n 0, 1) := by decide +kernel
theorem d_Mo_same_1 : decode prog_12_method_40_code 1 = .ok (.getfield 77, 3) := by decide +kernel
theorem d_Mo_same_4 : decode prog_12_method_40_code 4 = .ok (.iload_n 1, 1) := by decide +kernel
theorem d_Mo_same_5 : decode prog_12_method_40_code 5 = .ok (.iaload, 1) := by decide +kernel
theorem d_Mo_same_6 : decode prog_12_method_40_code 6 = .ok (.aload_n 0, 1) := by decide +kernel
theorem d_Mo_same_7 : decode prog_12_method_40_code 7 = .ok (.getfield 77, 3) := by decide +kernel
theorem d_Mo_same_10 : decode prog_12_method_40_code 10 = .ok (.iload_n 2, 1) := by decide +kernel
theorem d_Mo_same_11 : decode prog_12_method_40_code 11 = .ok (.iaload, 1) := by decide +kernel
theorem d_Mo_same_12 : decode prog_12_method_40_code 12 = .ok (.if_icmp .ne (97), 3) := by decide +kernel
theorem d_Mo_same_15 : decode prog_12_method_40_code 15 = .ok (.aload_n 0, 1) := by decide +kernel
theorem d_Mo_same_16 : decode prog_12_method_40_code 16 = .ok (.getfield 86, 3) := by decide +kernel
theorem d_Mo_same_19 : decode prog_12_method_40_code 19 = .ok (.iload_n 1, 1) := by decide +kernel
theorem d_Mo_same_20 : decode prog_12_method_40_code 20 = .ok (.iaload, 1) := by decide +kernel
theorem d_Mo_same_21 : decode prog_12_method_40_code 21 = .ok (.aload_n 0, 1) := by decide +kernel
theorem d_Mo_same_22 : decode prog_12_method_40_code 22 = .ok (.getfield 86, 3) := by decide +kernel
theorem d_Mo_same_25 : decode prog_12_method_40_code 25 = .ok (.iload_n 2, 1) := by decide +kernel
theorem d_Mo_same_26 : decode prog_12_method_40_code 26 = .ok (.iaload, 1) := by decide +kernel
theorem d_Mo_same_27 : decode prog_12_method_40_code 27 = .ok (.if_icmp .ne (82), 3) := by decide +kernel
theorem d_Mo_same_30 : decode prog_12_method_40_code 30 = .ok (.aload_n 0, 1) := by decide +kernel
theorem d_Mo_same_31 : decode prog_12_method_40_code 31 = .ok (.getfield 89, 3) := by decide +kernel
theorem d_Mo_same_34 : decode prog_12_method_40_code 34 = .ok (.iload_n 1, 1) := by decide +kernel
theorem d_Mo_same_35 : decode prog_12_method_40_code 35 = .ok (.iaload, 1) := by decide +kernel
theorem d_Mo_same_36 : decode prog_12_method_40_code 36 = .ok (.aload_n 0, 1) := by decide +kernel
theorem d_Mo_same_37 : decode prog_12_method_40_code 37 = .ok (.getfield 89, 3) := by decide +kernel
theorem d_Mo_same_40 : decode prog_12_method_40_code 40 = .ok (.iload_n 2, 1) := by decide +kernel
theorem d_Mo_same_41 : decode prog_12_method_40_code 41 = .ok (.iaload, 1) := by decide +kernel
theorem d_Mo_same_42 : decode prog_12_method_40_code 42 = .ok (.if_icmp .ne (67), 3) := by decide +kernel
theorem d_Mo_same_45 : decode prog_12_method_40_code 45 = .ok (.aload_n 0, 1) := by decide +kernel
theorem d_Mo_same_46 : decode prog_12_method_40_code 46 = .ok (.getfield 92, 3) := by decide +kernel
theorem d_Mo_same_49 : decode prog_12_method_40_code 49 = .ok (.iload_n 1, 1) := by decide +kernel
theorem d_Mo_same_50 : decode prog_12_method_40_code 50 = .ok (.iaload, 1) := by decide +kernel
theorem d_Mo_same_51 : decode prog_12_method_40_code 51 = .ok (.aload_n 0, 1) := by decide +kernel
theorem d_Mo_same_52 : decode prog_12_method_40_code 52 = .ok (.getfield 92, 3) := by decide +kernel
theorem d_Mo_same_55 : decode prog_12_method_40_code 55 = .ok (.iload_n 2, 1) := by decide +kernel
theorem d_Mo_same_56 : decode prog_12_method_40_code 56 = .ok (.iaload, 1) := by decide +kernel
theorem d_Mo_same_57 : decode prog_12_method_40_code 57 = .ok (.if_icmp .ne (52), 3) := by decide +kernel
theorem d_Mo_same_60 : decode prog_12_method_40_code 60 = .ok (.aload_n 0, 1) := by decide +kernel
theorem d_Mo_same_61 : decode prog_12_method_40_code 61 = .ok (.getfield 95, 3) := by decide +kernel
theorem d_Mo_same_64 : decode prog_12_method_40_code 64 = .ok (.iload_n 1, 1) := by decide +kernel
theorem d_Mo_same_65 : decode prog_12_method_40_code 65 = .ok (.iaload, 1) := by decide +kernel
theorem d_Mo_same_66 : decode prog_12_method_40_code 66 = .ok (.aload_n 0, 1) := by decide +kernel
theorem d_Mo_same_67 : decode prog_12_method_40_code 67 = .ok (.getfield 95, 3) := by decide +kernel
theorem d_Mo_same_70 : decode prog_12_method_40_code 70 = .ok (.iload_n 2, 1) := by decide +kernel
theorem d_Mo_same_71 : decode prog_12_method_40_code 71 = .ok (.iaload, 1) := by decide +kernel
theorem d_Mo_same_72 : decode prog_12_method_40_code 72 = .ok (.if_icmp .ne (37), 3) := by decide +kernel
theorem d_Mo_same_75 : decode prog_12_method_40_code 75 = .ok (.aload_n 0, 1) := by decide +kernel
theorem d_Mo_same_76 : decode prog_12_method_40_code 76 = .ok (.getfield 80, 3) := by decide +kernel
theorem d_Mo_same_79 : decode prog_12_method_40_code 79 = .ok (.iload_n 1, 1) := by decide +kernel
theorem d_Mo_same_80 : decode prog_12_method_40_code 80 = .ok (.iaload, 1) := by decide +kernel
theorem d_Mo_same_81 : decode prog_12_method_40_code 81 = .ok (.aload_n 0, 1) := by decide +kernel
theorem d_Mo_same_82 : decode prog_12_method_40_code 82 = .ok (.getfield 80, 3) := by decide +kernel
theorem d_Mo_same_85 : decode prog_12_method_40_code 85 = .ok (.iload_n 2, 1) := by decide +kernel
theorem d_Mo_same_86 : decode prog_12_method_40_code 86 = .ok (.iaload, 1) := by decide +kernel
theorem d_Mo_same_87 : decode prog_12_method_40_code 87 = .ok (.if_icmp .ne (22), 3) := by decide +kernel
theorem d_Mo_same_90 : decode prog_12_method_40_code 90 = .ok (.aload_n 0, 1) := by decide +kernel
theorem d_Mo_same_91 : decode prog_12_method_40_code 91 = .ok (.getfield 98, 3) := by decide +kernel
theorem d_Mo_same_94 : decode prog_12_method_40_code 94 = .ok (.iload_n 1, 1) := by decide +kernel
theorem d_Mo_same_95 : decode prog_12_method_40_code 95 = .ok (.iaload, 1) := by decide +kernel
theorem d_Mo_same_96 : decode prog_12_method_40_code 96 = .ok (.aload_n 0, 1) := by decide +kernel
theorem d_Mo_same_97 : decode prog_12_method_40_code 97 = .ok (.getfield 98, 3) := by decide +kernel
theorem d_Mo_same_100 : decode prog_12_method_40_code 100 = .ok (.iload_n 2, 1) := by decide +kernel
theorem d_Mo_same_101 : decode prog_12_method_40_code 101 = .ok (.iaload, 1) := by decide +kernel
theorem d_Mo_same_102 : decode prog_12_method_40_code 102 = .ok (.if_icmp .ne (7), 3) := by decide +kernel
theorem d_Mo_same_105 : decode prog_12_method_40_code 105 = .ok (.iconst 1, 1) := by decide +kernel
theorem d_Mo_same_106 : decode prog_12_method_40_code 106 = .ok (.goto (4), 3) := by decide +kernel
theorem d_Mo_same_109 : decode prog_12_method_40_code 109 = .ok (.iconst 0, 1) := by decide +kernel
theorem d_Mo_same_110 : decode prog_12_method_40_code 110 = .ok (.istore_n 3, 1) := by decide +kernel
theorem d_Mo_same_111 : decode prog_12_method_40_code 111 = .ok (.iconst 0, 1) := by decide +kernel
theorem d_Mo_same_112 : decode prog_12_method_40_code 112 = .ok (.istore 4, 2) := by decide +kernel
theorem d_Mo_same_114 : decode prog_12_method_40_code 114 = .ok (.iload 4, 2) := by decide +kernel
theorem d_Mo_same_116 : decode prog_12_method_40_code 116 = .ok (.aload_n 0, 1) := by decide +kernel
theorem d_Mo_same_117 : decode prog_12_method_40_code 117 = .ok (.getfield 80, 3) := by decide +kernel
theorem d_Mo_same_120 : decode prog_12_method_40_code 120 = .ok (.iload_n 1, 1) := by decide +kernel
theorem d_Mo_same_121 : decode prog_12_method_40_code 121 = .ok (.iaload, 1) := by decide +kernel
theorem d_Mo_same_122 : decode prog_12_method_40_code 122 = .ok (.if_icmp .ge (46), 3) := by decide +kernel
theorem d_Mo_same_125 : decode prog_12_method_40_code 125 = .ok (.iload_n 3, 1) := by decide +kernel
theorem d_Mo_same_126 : decode prog_12_method_40_code 126 = .ok (.ifCond .eq (42), 3) := by decide +kernel
theorem d_Mo_same_129 : decode prog_12_method_40_code 129 = .ok (.aload_n 0, 1) := by decide +kernel
theorem d_Mo_same_130 : decode prog_12_method_40_code 130 = .ok (.getfield 83, 3) := by decide +kernel
theorem d_Mo_same_133 : decode prog_12_method_40_code 133 = .ok (.bipush (8), 2) := by decide +kernel
theorem d_Mo_same_135 : decode prog_12_method_40_code 135 = .ok (.iload_n 1, 1) := by decide +kernel
theorem d_Mo_same_136 : decode prog_12_method_40_code 136 = .ok (.imul, 1) := by decide +kernel
theorem d_Mo_same_137 : decode prog_12_method_40_code 137 = .ok (.iload 4, 2) := by decide +kernel
theorem d_Mo_same_139 : decode prog_12_method_40_code 139 = .ok (.iadd, 1) := by decide +kernel
theorem d_Mo_same_140 : decode prog_12_method_40_code 140 = .ok (.iaload, 1) := by decide +kernel
theorem d_Mo_same_141 : decode prog_12_method_40_code 141 = .ok (.aload_n 0, 1) := by decide +kernel
theorem d_Mo_same_142 : decode prog_12_method_40_code 142 = .ok (.getfield 83, 3) := by decide +kernel
theorem d_Mo_same_145 : decode prog_12_method_40_code 145 = .ok (.bipush (8), 2) := by decide +kernel
theorem d_Mo_same_147 : decode prog_12_method_40_code 147 = .ok (.iload_n 2, 1) := by decide +kernel
theorem d_Mo_same_148 : decode prog_12_method_40_code 148 = .ok (.imul, 1) := by decide +kernel
theorem d_Mo_same_149 : decode prog_12_method_40_code 149 = .ok (.iload 4, 2) := by decide +kernel
theorem d_Mo_same_151 : decode prog_12_method_40_code 151 = .ok (.iadd, 1) := by decide +kernel
theorem d_Mo_same_152 : decode prog_12_method_40_code 152 = .ok (.iaload, 1) := by decide +kernel
theorem d_Mo_same_153 : decode prog_12_method_40_code 153 = .ok (.if_icmp .ne (7), 3) := by decide +kernel
theorem d_Mo_same_156 : decode prog_12_method_40_code 156 = .ok (.iconst 1, 1) := by decide +kernel
theorem d_Mo_same_157 : decode prog_12_method_40_code 157 = .ok (.goto (4), 3) := by decide +kernel
theorem d_Mo_same_160 : decode prog_12_method_40_code 160 = .ok (.iconst 0, 1) := by decide +kernel
theorem d_Mo_same_161 : decode prog_12_method_40_code 161 = .ok (.istore_n 3, 1) := by decide +kernel
theorem d_Mo_same_162 : decode prog_12_method_40_code 162 = .ok (.iinc 4 (1), 3) := by decide +kernel
theorem d_Mo_same_165 : decode prog_12_method_40_code 165 = .ok (.goto (-51), 3) := by decide +kernel
theorem d_Mo_same_168 : decode prog_12_method_40_code 168 = .ok (.iconst 0, 1) := by decide +kernel
theorem d_Mo_same_169 : decode prog_12_method_40_code 169 = .ok (.istore 4, 2) := by decide +kernel
theorem d_Mo_same_171 : decode prog_12_method_40_code 171 = .ok (.iload 4, 2) := by decide +kernel
theorem d_Mo_same_173 : decode prog_12_method_40_code 173 = .ok (.aload_n 0, 1) := by decide +kernel
theorem d_Mo_same_174 : decode prog_12_method_40_code 174 = .ok (.getfield 98, 3) := by decide +kernel
theorem d_Mo_same_177 : decode prog_12_method_40_code 177 = .ok (.iload_n 1, 1) := by decide +kernel
theorem d_Mo_same_178 : decode prog_12_method_40_code 178 = .ok (.iaload, 1) := by decide +kernel
theorem d_Mo_same_179 : decode prog_12_method_40_code 179 = .ok (.if_icmp .ge (46), 3) := by decide +kernel
theorem d_Mo_same_182 : decode prog_12_method_40_code 182 = .ok (.iload_n 3, 1) := by decide +kernel
theorem d_Mo_same_183 : decode prog_12_method_40_code 183 = .ok (.ifCond .eq (42), 3) := by decide +kernel
theorem d_Mo_same_186 : decode prog_12_method_40_code 186 = .ok (.aload_n 0, 1) := by decide +kernel
theorem d_Mo_same_187 : decode prog_12_method_40_code 187 = .ok (.getfield 101, 3) := by decide +kernel
theorem d_Mo_same_190 : decode prog_12_method_40_code 190 = .ok (.bipush (6), 2) := by decide +kernel
theorem d_Mo_same_192 : decode prog_12_method_40_code 192 = .ok (.iload_n 1, 1) := by decide +kernel
theorem d_Mo_same_193 : decode prog_12_method_40_code 193 = .ok (.imul, 1) := by decide +kernel
theorem d_Mo_same_194 : decode prog_12_method_40_code 194 = .ok (.iload 4, 2) := by decide +kernel
theorem d_Mo_same_196 : decode prog_12_method_40_code 196 = .ok (.iadd, 1) := by decide +kernel
theorem d_Mo_same_197 : decode prog_12_method_40_code 197 = .ok (.iaload, 1) := by decide +kernel
theorem d_Mo_same_198 : decode prog_12_method_40_code 198 = .ok (.aload_n 0, 1) := by decide +kernel
theorem d_Mo_same_199 : decode prog_12_method_40_code 199 = .ok (.getfield 101, 3) := by decide +kernel
theorem d_Mo_same_202 : decode prog_12_method_40_code 202 = .ok (.bipush (6), 2) := by decide +kernel
theorem d_Mo_same_204 : decode prog_12_method_40_code 204 = .ok (.iload_n 2, 1) := by decide +kernel
theorem d_Mo_same_205 : decode prog_12_method_40_code 205 = .ok (.imul, 1) := by decide +kernel
theorem d_Mo_same_206 : decode prog_12_method_40_code 206 = .ok (.iload 4, 2) := by decide +kernel
theorem d_Mo_same_208 : decode prog_12_method_40_code 208 = .ok (.iadd, 1) := by decide +kernel
theorem d_Mo_same_209 : decode prog_12_method_40_code 209 = .ok (.iaload, 1) := by decide +kernel
theorem d_Mo_same_210 : decode prog_12_method_40_code 210 = .ok (.if_icmp .ne (7), 3) := by decide +kernel
theorem d_Mo_same_213 : decode prog_12_method_40_code 213 = .ok (.iconst 1, 1) := by decide +kernel
theorem d_Mo_same_214 : decode prog_12_method_40_code 214 = .ok (.goto (4), 3) := by decide +kernel
theorem d_Mo_same_217 : decode prog_12_method_40_code 217 = .ok (.iconst 0, 1) := by decide +kernel
theorem d_Mo_same_218 : decode prog_12_method_40_code 218 = .ok (.istore_n 3, 1) := by decide +kernel
theorem d_Mo_same_219 : decode prog_12_method_40_code 219 = .ok (.iinc 4 (1), 3) := by decide +kernel
theorem d_Mo_same_222 : decode prog_12_method_40_code 222 = .ok (.goto (-51), 3) := by decide +kernel
theorem d_Mo_same_225 : decode prog_12_method_40_code 225 = .ok (.iload_n 3, 1) := by decide +kernel
theorem d_Mo_same_226 : decode prog_12_method_40_code 226 = .ok (.ireturn, 1) := by decide +kernel
def G_Mo_same_171 (N : Nat → Nat) (Q : Int32 → rs_Mem → Prop) (K171 : Nat → Int32 → Int32 → Int32 → Int32 → rs_Mem → Prop) (v0 : Nat) (x1 : Int32) (x2 : Int32) (x3 : Int32) (x4 : Int32) (σ : rs_Mem) : Prop :=
  (vp_in x1 (N (rs_R σ v0 32)) ∧ (((rs_I σ (rs_R σ v0 32) x1.toNatClampNeg) ≤ x4 → ((x3 &&& 1 = x3) ∧ Q x3 σ)) ∧ (¬ ((rs_I σ (rs_R σ v0 32) x1.toNatClampNeg) ≤ x4) → ((x3 = 0 → ((x3 &&& 1 = x3) ∧ Q x3 σ)) ∧ (¬ (x3 = 0) → (vp_in (((6 : Int32) * x1) + x4) (N (rs_R σ v0 33)) ∧ (vp_in (((6 : Int32) * x2) + x4) (N (rs_R σ v0 33)) ∧ ((¬ ((rs_I σ (rs_R σ v0 33) (((6 : Int32) * x1) + x4).toNatClampNeg) = (rs_I σ (rs_R σ v0 33) (((6 : Int32) * x2) + x4).toNatClampNeg)) → (∀ x57 : Int32, x57 = x4 + (1 : Int32) → (K171 v0 x1 x2 (0 : Int32) x57 σ))) ∧ ((rs_I σ (rs_R σ v0 33) (((6 : Int32) * x1) + x4).toNatClampNeg) = (rs_I σ (rs_R σ v0 33) (((6 : Int32) * x2) + x4).toNatClampNeg) → (∀ x57 : Int32, x57 = x4 + (1 : Int32) → (K171 v0 x1 x2 (1 : Int32) x57 σ)))))))))))
noncomputable def L_Mo_same_171 (N : Nat → Nat) (Q : Int32 → rs_Mem → Prop) (n : Nat) : Nat → Int32 → Int32 → Int32 → Int32 → rs_Mem → Prop := Nat.rec (motive := fun _ => Nat → Int32 → Int32 → Int32 → Int32 → rs_Mem → Prop) (fun _ _ _ _ _ _ => False) (fun _ K => G_Mo_same_171 N Q K) n
def G_Mo_same_114 (N : Nat → Nat) (Q : Int32 → rs_Mem → Prop) (K114 : Nat → Int32 → Int32 → Int32 → Int32 → rs_Mem → Prop) (v0 : Nat) (x1 : Int32) (x2 : Int32) (x3 : Int32) (x4 : Int32) (σ : rs_Mem) : Prop :=
  (vp_in x1 (N (rs_R σ v0 26)) ∧ (((rs_I σ (rs_R σ v0 26) x1.toNatClampNeg) ≤ x4 → (∃ n : Nat, L_Mo_same_171 N Q n v0 x1 x2 x3 (0 : Int32) σ)) ∧ (¬ ((rs_I σ (rs_R σ v0 26) x1.toNatClampNeg) ≤ x4) → ((x3 = 0 → (∃ n : Nat, L_Mo_same_171 N Q n v0 x1 x2 x3 (0 : Int32) σ)) ∧ (¬ (x3 = 0) → (vp_in (((8 : Int32) * x1) + x4) (N (rs_R σ v0 27)) ∧ (vp_in (((8 : Int32) * x2) + x4) (N (rs_R σ v0 27)) ∧ ((¬ ((rs_I σ (rs_R σ v0 27) (((8 : Int32) * x1) + x4).toNatClampNeg) = (rs_I σ (rs_R σ v0 27) (((8 : Int32) * x2) + x4).toNatClampNeg)) → (∀ x57 : Int32, x57 = x4 + (1 : Int32) → (K114 v0 x1 x2 (0 : Int32) x57 σ))) ∧ ((rs_I σ (rs_R σ v0 27) (((8 : Int32) * x1) + x4).toNatClampNeg) = (rs_I σ (rs_R σ v0 27) (((8 : Int32) * x2) + x4).toNatClampNeg) → (∀ x57 : Int32, x57 = x4 + (1 : Int32) → (K114 v0 x1 x2 (1 : Int32) x57 σ)))))))))))
noncomputable def L_Mo_same_114 (N : Nat → Nat) (Q : Int32 → rs_Mem → Prop) (n : Nat) : Nat → Int32 → Int32 → Int32 → Int32 → rs_Mem → Prop := Nat.rec (motive := fun _ => Nat → Int32 → Int32 → Int32 → Int32 → rs_Mem → Prop) (fun _ _ _ _ _ _ => False) (fun _ K => G_Mo_same_114 N Q K) n
def B_Mo_same_109 (N : Nat → Nat) (Q : Int32 → rs_Mem → Prop) (v0 : Nat) (x1 : Int32) (x2 : Int32) (σ : rs_Mem) : Prop :=
  (∃ n : Nat, L_Mo_same_114 N Q n v0 x1 x2 (0 : Int32) (0 : Int32) σ)
def F_Mo_same (N : Nat → Nat) (v0 : Nat) (x1 : Int32) (x2 : Int32) (σ : rs_Mem) (Q : Int32 → rs_Mem → Prop) : Prop :=
  (vp_in x1 (N (rs_R σ v0 25)) ∧ (vp_in x2 (N (rs_R σ v0 25)) ∧ ((¬ ((rs_I σ (rs_R σ v0 25) x1.toNatClampNeg) = (rs_I σ (rs_R σ v0 25) x2.toNatClampNeg)) → (B_Mo_same_109 N Q v0 x1 x2 σ)) ∧ ((rs_I σ (rs_R σ v0 25) x1.toNatClampNeg) = (rs_I σ (rs_R σ v0 25) x2.toNatClampNeg) → (vp_in x1 (N (rs_R σ v0 28)) ∧ (vp_in x2 (N (rs_R σ v0 28)) ∧ ((¬ ((rs_I σ (rs_R σ v0 28) x1.toNatClampNeg) = (rs_I σ (rs_R σ v0 28) x2.toNatClampNeg)) → (B_Mo_same_109 N Q v0 x1 x2 σ)) ∧ ((rs_I σ (rs_R σ v0 28) x1.toNatClampNeg) = (rs_I σ (rs_R σ v0 28) x2.toNatClampNeg) → (vp_in x1 (N (rs_R σ v0 29)) ∧ (vp_in x2 (N (rs_R σ v0 29)) ∧ ((¬ ((rs_I σ (rs_R σ v0 29) x1.toNatClampNeg) = (rs_I σ (rs_R σ v0 29) x2.toNatClampNeg)) → (B_Mo_same_109 N Q v0 x1 x2 σ)) ∧ ((rs_I σ (rs_R σ v0 29) x1.toNatClampNeg) = (rs_I σ (rs_R σ v0 29) x2.toNatClampNeg) → (vp_in x1 (N (rs_R σ v0 30)) ∧ (vp_in x2 (N (rs_R σ v0 30)) ∧ ((¬ ((rs_I σ (rs_R σ v0 30) x1.toNatClampNeg) = (rs_I σ (rs_R σ v0 30) x2.toNatClampNeg)) → (B_Mo_same_109 N Q v0 x1 x2 σ)) ∧ ((rs_I σ (rs_R σ v0 30) x1.toNatClampNeg) = (rs_I σ (rs_R σ v0 30) x2.toNatClampNeg) → (vp_in x1 (N (rs_R σ v0 31)) ∧ (vp_in x2 (N (rs_R σ v0 31)) ∧ ((¬ ((rs_I σ (rs_R σ v0 31) x1.toNatClampNeg) = (rs_I σ (rs_R σ v0 31) x2.toNatClampNeg)) → (B_Mo_same_109 N Q v0 x1 x2 σ)) ∧ ((rs_I σ (rs_R σ v0 31) x1.toNatClampNeg) = (rs_I σ (rs_R σ v0 31) x2.toNatClampNeg) → (vp_in x1 (N (rs_R σ v0 26)) ∧ (vp_in x2 (N (rs_R σ v0 26)) ∧ ((¬ ((rs_I σ (rs_R σ v0 26) x1.toNatClampNeg) = (rs_I σ (rs_R σ v0 26) x2.toNatClampNeg)) → (B_Mo_same_109 N Q v0 x1 x2 σ)) ∧ ((rs_I σ (rs_R σ v0 26) x1.toNatClampNeg) = (rs_I σ (rs_R σ v0 26) x2.toNatClampNeg) → (vp_in x1 (N (rs_R σ v0 32)) ∧ (vp_in x2 (N (rs_R σ v0 32)) ∧ ((¬ ((rs_I σ (rs_R σ v0 32) x1.toNatClampNeg) = (rs_I σ (rs_R σ v0 32) x2.toNatClampNeg)) → (B_Mo_same_109 N Q v0 x1 x2 σ)) ∧ ((rs_I σ (rs_R σ v0 32) x1.toNatClampNeg) = (rs_I σ (rs_R σ v0 32) x2.toNatClampNeg) → (∃ n : Nat, L_Mo_same_114 N Q n v0 x1 x2 (1 : Int32) (0 : Int32) σ)))))))))))))))))))))))))))))
set_option maxRecDepth 20000 in
theorem JL_Mo_same_171 {p : Program} {l : Launch} {e : Env} {s : State} {m : MethodId} {args : Array Value} {below : List Frame} {meth : Method} {c : Code} {G : rs_G} {Bm : Nat} {S : rs_Shp} {Q : Int32 → rs_Mem → Prop} (C : rs_C "RouteSpeakerModel" prog_12_method_40_code 5 (some .boolean) G p s m meth c args) : ∀ n : Nat, ∀ (v0 : Nat) (x1 : Int32) (x2 : Int32) (x3 : Int32) (x4 : Int32) (σ : rs_Mem) (H : Heap) (locs : List Loc) (ls : Array Slot), rs_Ok S 11 v0 → rs_H G Bm S σ H → rs_T S σ → va_S (rs_A Bm) s.heap H locs → lv_has ls 5 [(0, .ref (Bm + v0)), (1, .int x1), (2, .int x2), (3, .int x3), (4, .int x4)] → (L_Mo_same_171 S.2.2 Q n) v0 x1 x2 x3 x4 σ → W p l e { frames := 0, cells := 0, slots := 0, locals := 0 } s m args below meth c H locs 0 0 (MQ below (rs_Qi G Bm S Q) args s 0 0 (rs_A Bm)) (F0 m 171 ls []) := by
  have hx := C.1
  have hb := C.2.1
  intro n
  induction n with
  | zero => intros; rename_i hF; exact hF.elim
  | succ n hK171 =>
    intro v0 x1 x2 x3 x4 σ H locs ls h_v0 hH hT hS hl hF
    replace hF : G_Mo_same_171 S.2.2 Q (L_Mo_same_171 S.2.2 Q n) v0 x1 x2 x3 x4 σ := hF
    unfold G_Mo_same_171 at hF
    refine lv_iload hx hb d_Mo_same_171 (lv_at hl 4 rfl) ?_
    refine lv_aload_n hx hb d_Mo_same_173 rfl (lv_at hl 0 rfl) ?_
    refine rs_getR C hH hT h_v0 fk_11_32 tw_931 d_Mo_same_174 (fun h51 => ?_)
    refine lv_iload_n hx hb d_Mo_same_177 rfl (lv_at hl 1 rfl) ?_
    obtain ⟨g52, hF⟩ := hF
    refine rs_iald C hH h51 g52 d_Mo_same_178 ?_
    refine lv_icmp_ge hx hb d_Mo_same_179 (tgt := 225) rfl (fun hc => ?_) (fun hc => ?_)
    · replace hF := hF.1 hc
      refine lv_iload_n hx hb d_Mo_same_225 rfl (lv_at hl 3 rfl) ?_
      exact rs_zret C hH hT hS hF.1 hF.2 d_Mo_same_226
    · replace hF := hF.2 hc
      refine lv_iload_n hx hb d_Mo_same_182 rfl (lv_at hl 3 rfl) ?_
      refine lv_if_eq hx hb d_Mo_same_183 (tgt := 225) rfl (fun hc => ?_) (fun hc => ?_)
      · replace hF := hF.1 hc
        refine lv_iload_n hx hb d_Mo_same_225 rfl (lv_at hl 3 rfl) ?_
        exact rs_zret C hH hT hS hF.1 hF.2 d_Mo_same_226
      · replace hF := hF.2 hc
        refine lv_aload_n hx hb d_Mo_same_186 rfl (lv_at hl 0 rfl) ?_
        refine rs_getR C hH hT h_v0 fk_11_33 tw_932 d_Mo_same_187 (fun h53 => ?_)
        refine lv_bipush hx hb d_Mo_same_190 kb_6 ?_
        refine lv_iload_n hx hb d_Mo_same_192 rfl (lv_at hl 1 rfl) ?_
        refine lv_imul hx hb d_Mo_same_193 ?_
        refine lv_iload hx hb d_Mo_same_194 (lv_at hl 4 rfl) ?_
        refine lv_iadd hx hb d_Mo_same_196 ?_
        obtain ⟨g54, hF⟩ := hF
        refine rs_iald C hH h53 g54 d_Mo_same_197 ?_
        refine lv_aload_n hx hb d_Mo_same_198 rfl (lv_at hl 0 rfl) ?_
        refine rs_getR C hH hT h_v0 fk_11_33 tw_932 d_Mo_same_199 (fun h55 => ?_)
        refine lv_bipush hx hb d_Mo_same_202 kb_6 ?_
        refine lv_iload_n hx hb d_Mo_same_204 rfl (lv_at hl 2 rfl) ?_
        refine lv_imul hx hb d_Mo_same_205 ?_
        refine lv_iload hx hb d_Mo_same_206 (lv_at hl 4 rfl) ?_
        refine lv_iadd hx hb d_Mo_same_208 ?_
        obtain ⟨g56, hF⟩ := hF
        refine rs_iald C hH h55 g56 d_Mo_same_209 ?_
        refine lv_icmp_ne hx hb d_Mo_same_210 (tgt := 217) rfl (fun hc => ?_) (fun hc => ?_)
        · replace hF := hF.1 hc
          refine lv_iconst hx hb d_Mo_same_217 ki_0 ?_
          refine lv_istore_n hx hb d_Mo_same_218 rfl hl (by decide) (lv' := [(3, .int (0 : Int32)), (0, .ref (Bm + v0)), (1, .int x1), (2, .int x2), (4, .int x4)]) rfl (fun ls hl => ?_)
          obtain ⟨x57, ex57⟩ : ∃ z : Int32, z = x4 + (1 : Int32) := ⟨_, rfl⟩
          replace hF := hF x57 ex57
          refine lv_iinc hx hb d_Mo_same_219 hl (k := 4) rfl (v := x57) (by rw [ki_1, ex57]) (by decide) (lv' := [(4, .int x57), (3, .int (0 : Int32)), (0, .ref (Bm + v0)), (1, .int x1), (2, .int x2)]) rfl (fun ls hl => ?_)
          refine lv_goto hx hb d_Mo_same_222 (tgt := 171) rfl ?_
          exact hK171 v0 x1 x2 (0 : Int32) x57 σ _ _ _ h_v0 hH hT hS (lv_sub hl [2, 3, 4, 1, 0] rfl) hF
        · replace hF := hF.2 hc
          refine lv_iconst hx hb d_Mo_same_213 ki_1 ?_
          refine lv_goto hx hb d_Mo_same_214 (tgt := 218) rfl ?_
          refine lv_istore_n hx hb d_Mo_same_218 rfl hl (by decide) (lv' := [(3, .int (1 : Int32)), (0, .ref (Bm + v0)), (1, .int x1), (2, .int x2), (4, .int x4)]) rfl (fun ls hl => ?_)
          obtain ⟨x57, ex57⟩ : ∃ z : Int32, z = x4 + (1 : Int32) := ⟨_, rfl⟩
          replace hF := hF x57 ex57
          refine lv_iinc hx hb d_Mo_same_219 hl (k := 4) rfl (v := x57) (by rw [ki_1, ex57]) (by decide) (lv' := [(4, .int x57), (3, .int (1 : Int32)), (0, .ref (Bm + v0)), (1, .int x1), (2, .int x2)]) rfl (fun ls hl => ?_)
          refine lv_goto hx hb d_Mo_same_222 (tgt := 171) rfl ?_
          exact hK171 v0 x1 x2 (1 : Int32) x57 σ _ _ _ h_v0 hH hT hS (lv_sub hl [2, 3, 4, 1, 0] rfl) hF
set_option maxRecDepth 20000 in
theorem JL_Mo_same_114 {p : Program} {l : Launch} {e : Env} {s : State} {m : MethodId} {args : Array Value} {below : List Frame} {meth : Method} {c : Code} {G : rs_G} {Bm : Nat} {S : rs_Shp} {Q : Int32 → rs_Mem → Prop} (C : rs_C "RouteSpeakerModel" prog_12_method_40_code 5 (some .boolean) G p s m meth c args) : ∀ n : Nat, ∀ (v0 : Nat) (x1 : Int32) (x2 : Int32) (x3 : Int32) (x4 : Int32) (σ : rs_Mem) (H : Heap) (locs : List Loc) (ls : Array Slot), rs_Ok S 11 v0 → rs_H G Bm S σ H → rs_T S σ → va_S (rs_A Bm) s.heap H locs → lv_has ls 5 [(0, .ref (Bm + v0)), (1, .int x1), (2, .int x2), (3, .int x3), (4, .int x4)] → (L_Mo_same_114 S.2.2 Q n) v0 x1 x2 x3 x4 σ → W p l e { frames := 0, cells := 0, slots := 0, locals := 0 } s m args below meth c H locs 0 0 (MQ below (rs_Qi G Bm S Q) args s 0 0 (rs_A Bm)) (F0 m 114 ls []) := by
  have hx := C.1
  have hb := C.2.1
  intro n
  induction n with
  | zero => intros; rename_i hF; exact hF.elim
  | succ n hK114 =>
    intro v0 x1 x2 x3 x4 σ H locs ls h_v0 hH hT hS hl hF
    replace hF : G_Mo_same_114 S.2.2 Q (L_Mo_same_114 S.2.2 Q n) v0 x1 x2 x3 x4 σ := hF
    unfold G_Mo_same_114 at hF
    refine lv_iload hx hb d_Mo_same_114 (lv_at hl 4 rfl) ?_
    refine lv_aload_n hx hb d_Mo_same_116 rfl (lv_at hl 0 rfl) ?_
    refine rs_getR C hH hT h_v0 fk_11_26 tw_925 d_Mo_same_117 (fun h51 => ?_)
    refine lv_iload_n hx hb d_Mo_same_120 rfl (lv_at hl 1 rfl) ?_
    obtain ⟨g52, hF⟩ := hF
    refine rs_iald C hH h51 g52 d_Mo_same_121 ?_
    refine lv_icmp_ge hx hb d_Mo_same_122 (tgt := 168) rfl (fun hc => ?_) (fun hc => ?_)
    · replace hF := hF.1 hc
      refine lv_iconst hx hb d_Mo_same_168 ki_0 ?_
      refine lv_istore hx hb d_Mo_same_169 hl (by decide) (lv' := [(4, .int (0 : Int32)), (0, .ref (Bm + v0)), (1, .int x1), (2, .int x2), (3, .int x3)]) rfl (fun ls hl => ?_)
      obtain ⟨n, hF⟩ := hF
      exact JL_Mo_same_171 C n v0 x1 x2 x3 (0 : Int32) σ _ _ _ h_v0 hH hT hS (lv_sub hl [1, 2, 3, 4, 0] rfl) hF
    · replace hF := hF.2 hc
      refine lv_iload_n hx hb d_Mo_same_125 rfl (lv_at hl 3 rfl) ?_
      refine lv_if_eq hx hb d_Mo_same_126 (tgt := 168) rfl (fun hc => ?_) (fun hc => ?_)
      · replace hF := hF.1 hc
        refine lv_iconst hx hb d_Mo_same_168 ki_0 ?_
        refine lv_istore hx hb d_Mo_same_169 hl (by decide) (lv' := [(4, .int (0 : Int32)), (0, .ref (Bm + v0)), (1, .int x1), (2, .int x2), (3, .int x3)]) rfl (fun ls hl => ?_)
        obtain ⟨n, hF⟩ := hF
        exact JL_Mo_same_171 C n v0 x1 x2 x3 (0 : Int32) σ _ _ _ h_v0 hH hT hS (lv_sub hl [1, 2, 3, 4, 0] rfl) hF
      · replace hF := hF.2 hc
        refine lv_aload_n hx hb d_Mo_same_129 rfl (lv_at hl 0 rfl) ?_
        refine rs_getR C hH hT h_v0 fk_11_27 tw_926 d_Mo_same_130 (fun h53 => ?_)
        refine lv_bipush hx hb d_Mo_same_133 kb_8 ?_
        refine lv_iload_n hx hb d_Mo_same_135 rfl (lv_at hl 1 rfl) ?_
        refine lv_imul hx hb d_Mo_same_136 ?_
        refine lv_iload hx hb d_Mo_same_137 (lv_at hl 4 rfl) ?_
        refine lv_iadd hx hb d_Mo_same_139 ?_
        obtain ⟨g54, hF⟩ := hF
        refine rs_iald C hH h53 g54 d_Mo_same_140 ?_
        refine lv_aload_n hx hb d_Mo_same_141 rfl (lv_at hl 0 rfl) ?_
        refine rs_getR C hH hT h_v0 fk_11_27 tw_926 d_Mo_same_142 (fun h55 => ?_)
        refine lv_bipush hx hb d_Mo_same_145 kb_8 ?_
        refine lv_iload_n hx hb d_Mo_same_147 rfl (lv_at hl 2 rfl) ?_
        refine lv_imul hx hb d_Mo_same_148 ?_
        refine lv_iload hx hb d_Mo_same_149 (lv_at hl 4 rfl) ?_
        refine lv_iadd hx hb d_Mo_same_151 ?_
        obtain ⟨g56, hF⟩ := hF
        refine rs_iald C hH h55 g56 d_Mo_same_152 ?_
        refine lv_icmp_ne hx hb d_Mo_same_153 (tgt := 160) rfl (fun hc => ?_) (fun hc => ?_)
        · replace hF := hF.1 hc
          refine lv_iconst hx hb d_Mo_same_160 ki_0 ?_
          refine lv_istore_n hx hb d_Mo_same_161 rfl hl (by decide) (lv' := [(3, .int (0 : Int32)), (0, .ref (Bm + v0)), (1, .int x1), (2, .int x2), (4, .int x4)]) rfl (fun ls hl => ?_)
          obtain ⟨x57, ex57⟩ : ∃ z : Int32, z = x4 + (1 : Int32) := ⟨_, rfl⟩
          replace hF := hF x57 ex57
          refine lv_iinc hx hb d_Mo_same_162 hl (k := 4) rfl (v := x57) (by rw [ki_1, ex57]) (by decide) (lv' := [(4, .int x57), (3, .int (0 : Int32)), (0, .ref (Bm + v0)), (1, .int x1), (2, .int x2)]) rfl (fun ls hl => ?_)
          refine lv_goto hx hb d_Mo_same_165 (tgt := 114) rfl ?_
          exact hK114 v0 x1 x2 (0 : Int32) x57 σ _ _ _ h_v0 hH hT hS (lv_sub hl [2, 3, 4, 1, 0] rfl) hF
        · replace hF := hF.2 hc
          refine lv_iconst hx hb d_Mo_same_156 ki_1 ?_
          refine lv_goto hx hb d_Mo_same_157 (tgt := 161) rfl ?_
          refine lv_istore_n hx hb d_Mo_same_161 rfl hl (by decide) (lv' := [(3, .int (1 : Int32)), (0, .ref (Bm + v0)), (1, .int x1), (2, .int x2), (4, .int x4)]) rfl (fun ls hl => ?_)
          obtain ⟨x57, ex57⟩ : ∃ z : Int32, z = x4 + (1 : Int32) := ⟨_, rfl⟩
          replace hF := hF x57 ex57
          refine lv_iinc hx hb d_Mo_same_162 hl (k := 4) rfl (v := x57) (by rw [ki_1, ex57]) (by decide) (lv' := [(4, .int x57), (3, .int (1 : Int32)), (0, .ref (Bm + v0)), (1, .int x1), (2, .int x2)]) rfl (fun ls hl => ?_)
          refine lv_goto hx hb d_Mo_same_165 (tgt := 114) rfl ?_
          exact hK114 v0 x1 x2 (1 : Int32) x57 σ _ _ _ h_v0 hH hT hS (lv_sub hl [2, 3, 4, 1, 0] rfl) hF
set_option maxRecDepth 20000 in
theorem JB_Mo_same_109 {p : Program} {l : Launch} {e : Env} {s : State} {m : MethodId} {args : Array Value} {below : List Frame} {meth : Method} {c : Code} {G : rs_G} {Bm : Nat} {S : rs_Shp} {Q : Int32 → rs_Mem → Prop} (C : rs_C "RouteSpeakerModel" prog_12_method_40_code 5 (some .boolean) G p s m meth c args) (v0 : Nat) (x1 : Int32) (x2 : Int32) (σ : rs_Mem) (H : Heap) (locs : List Loc) (ls : Array Slot) (h_v0 : rs_Ok S 11 v0) (hH : rs_H G Bm S σ H) (hT : rs_T S σ) (hS : va_S (rs_A Bm) s.heap H locs) (hl : lv_has ls 5 [(0, .ref (Bm + v0)), (1, .int x1), (2, .int x2)]) (hF : B_Mo_same_109 S.2.2 Q v0 x1 x2 σ) :
    W p l e { frames := 0, cells := 0, slots := 0, locals := 0 } s m args below meth c H locs 0 0 (MQ below (rs_Qi G Bm S Q) args s 0 0 (rs_A Bm)) (F0 m 109 ls []) := by
  have hx := C.1
  have hb := C.2.1
  unfold B_Mo_same_109 at hF
  refine lv_iconst hx hb d_Mo_same_109 ki_0 ?_
  refine lv_istore_n hx hb d_Mo_same_110 rfl hl (by decide) (lv' := [(3, .int (0 : Int32)), (0, .ref (Bm + v0)), (1, .int x1), (2, .int x2)]) rfl (fun ls hl => ?_)
  refine lv_iconst hx hb d_Mo_same_111 ki_0 ?_
  refine lv_istore hx hb d_Mo_same_112 hl (by decide) (lv' := [(4, .int (0 : Int32)), (3, .int (0 : Int32)), (0, .ref (Bm + v0)), (1, .int x1), (2, .int x2)]) rfl (fun ls hl => ?_)
  obtain ⟨n, hF⟩ := hF
  exact JL_Mo_same_114 C n v0 x1 x2 (0 : Int32) (0 : Int32) σ _ _ _ h_v0 hH hT hS (lv_sub hl [2, 3, 4, 1, 0] rfl) hF
abbrev y_Mo_same : MethodName := ({ cls := "RouteSpeakerModel", name := "same", desc := "(II)Z" } : Jvm.MethodName)
theorem rc_Mo_same : rs_Cal y_Mo_same prog_12_method_40_code 5 (some .boolean) 2 := ⟨tw_1248, tw_11, by decide, by decide, by decide +kernel⟩
set_option maxRecDepth 20000 in
theorem J_Mo_same (l : Launch) {G : rs_G} {Bm : Nat} {S : rs_Shp} {v0 : Nat} {x1 : Int32} {x2 : Int32} {σ : rs_Mem} {Q : Int32 → rs_Mem → Prop} (h_v0 : rs_Ok S 11 v0) (hF : F_Mo_same S.2.2 v0 x1 x2 σ Q) :
    Met l y_Mo_same (rs_ws y_Mo_same prog_12_method_40_code 5 (some .boolean)) { frames := 0, cells := 0, slots := 0, locals := 0 } (rs_P G Bm S σ [.ref (Bm + v0), .int x1, .int x2]) (rs_Qi G Bm S Q) 0 0 (rs_A Bm) := by
  refine rs_met (own := "RouteSpeakerModel") (by decide) rfl (Nat.le_of_ble_eq_true rfl) (fun p e s m below meth c ls C hl hH hT hS => ?_)
  replace hl : lv_has ls 5 [(0, .ref (Bm + v0)), (1, .int x1), (2, .int x2)] := hl
  have hx := C.1
  have hb := C.2.1
  unfold F_Mo_same at hF
  refine lv_aload_n hx hb d_Mo_same_0 rfl (lv_at hl 0 rfl) ?_
  refine rs_getR C hH hT h_v0 fk_11_25 tw_924 d_Mo_same_1 (fun h51 => ?_)
  refine lv_iload_n hx hb d_Mo_same_4 rfl (lv_at hl 1 rfl) ?_
  obtain ⟨g52, hF⟩ := hF
  refine rs_iald C hH h51 g52 d_Mo_same_5 ?_
  refine lv_aload_n hx hb d_Mo_same_6 rfl (lv_at hl 0 rfl) ?_
  refine rs_getR C hH hT h_v0 fk_11_25 tw_924 d_Mo_same_7 (fun h53 => ?_)
  refine lv_iload_n hx hb d_Mo_same_10 rfl (lv_at hl 2 rfl) ?_
  obtain ⟨g54, hF⟩ := hF
  refine rs_iald C hH h53 g54 d_Mo_same_11 ?_
  refine lv_icmp_ne hx hb d_Mo_same_12 (tgt := 109) rfl (fun hc => ?_) (fun hc => ?_)
  · replace hF := hF.1 hc
    exact JB_Mo_same_109 C v0 x1 x2 σ _ _ _ h_v0 hH hT hS (lv_sub hl [0, 1, 2] rfl) hF
  · replace hF := hF.2 hc
    refine lv_aload_n hx hb d_Mo_same_15 rfl (lv_at hl 0 rfl) ?_
    refine rs_getR C hH hT h_v0 fk_11_28 tw_927 d_Mo_same_16 (fun h55 => ?_)
    refine lv_iload_n hx hb d_Mo_same_19 rfl (lv_at hl 1 rfl) ?_
    obtain ⟨g56, hF⟩ := hF
    refine rs_iald C hH h55 g56 d_Mo_same_20 ?_
    refine lv_aload_n hx hb d_Mo_same_21 rfl (lv_at hl 0 rfl) ?_
    refine rs_getR C hH hT h_v0 fk_11_28 tw_927 d_Mo_same_22 (fun h57 => ?_)
    refine lv_iload_n hx hb d_Mo_same_25 rfl (lv_at hl 2 rfl) ?_
    obtain ⟨g58, hF⟩ := hF
    refine rs_iald C hH h57 g58 d_Mo_same_26 ?_
    refine lv_icmp_ne hx hb d_Mo_same_27 (tgt := 109) rfl (fun hc => ?_) (fun hc => ?_)
    · replace hF := hF.1 hc
      exact JB_Mo_same_109 C v0 x1 x2 σ _ _ _ h_v0 hH hT hS (lv_sub hl [0, 1, 2] rfl) hF
    · replace hF := hF.2 hc
      refine lv_aload_n hx hb d_Mo_same_30 rfl (lv_at hl 0 rfl) ?_
      refine rs_getR C hH hT h_v0 fk_11_29 tw_928 d_Mo_same_31 (fun h59 => ?_)
      refine lv_iload_n hx hb d_Mo_same_34 rfl (lv_at hl 1 rfl) ?_
      obtain ⟨g60, hF⟩ := hF
      refine rs_iald C hH h59 g60 d_Mo_same_35 ?_
      refine lv_aload_n hx hb d_Mo_same_36 rfl (lv_at hl 0 rfl) ?_
      refine rs_getR C hH hT h_v0 fk_11_29 tw_928 d_Mo_same_37 (fun h61 => ?_)
      refine lv_iload_n hx hb d_Mo_same_40 rfl (lv_at hl 2 rfl) ?_
      obtain ⟨g62, hF⟩ := hF
      refine rs_iald C hH h61 g62 d_Mo_same_41 ?_
      refine lv_icmp_ne hx hb d_Mo_same_42 (tgt := 109) rfl (fun hc => ?_) (fun hc => ?_)
      · replace hF := hF.1 hc
        exact JB_Mo_same_109 C v0 x1 x2 σ _ _ _ h_v0 hH hT hS (lv_sub hl [0, 1, 2] rfl) hF
      · replace hF := hF.2 hc
        refine lv_aload_n hx hb d_Mo_same_45 rfl (lv_at hl 0 rfl) ?_
        refine rs_getR C hH hT h_v0 fk_11_30 tw_929 d_Mo_same_46 (fun h63 => ?_)
        refine lv_iload_n hx hb d_Mo_same_49 rfl (lv_at hl 1 rfl) ?_
        obtain ⟨g64, hF⟩ := hF
        refine rs_iald C hH h63 g64 d_Mo_same_50 ?_
        refine lv_aload_n hx hb d_Mo_same_51 rfl (lv_at hl 0 rfl) ?_
        refine rs_getR C hH hT h_v0 fk_11_30 tw_929 d_Mo_same_52 (fun h65 => ?_)
        refine lv_iload_n hx hb d_Mo_same_55 rfl (lv_at hl 2 rfl) ?_
        obtain ⟨g66, hF⟩ := hF
        refine rs_iald C hH h65 g66 d_Mo_same_56 ?_
        refine lv_icmp_ne hx hb d_Mo_same_57 (tgt := 109) rfl (fun hc => ?_) (fun hc => ?_)
        · replace hF := hF.1 hc
          exact JB_Mo_same_109 C v0 x1 x2 σ _ _ _ h_v0 hH hT hS (lv_sub hl [0, 1, 2] rfl) hF
        · replace hF := hF.2 hc
          refine lv_aload_n hx hb d_Mo_same_60 rfl (lv_at hl 0 rfl) ?_
          refine rs_getR C hH hT h_v0 fk_11_31 tw_930 d_Mo_same_61 (fun h67 => ?_)
          refine lv_iload_n hx hb d_Mo_same_64 rfl (lv_at hl 1 rfl) ?_
          obtain ⟨g68, hF⟩ := hF
          refine rs_iald C hH h67 g68 d_Mo_same_65 ?_
          refine lv_aload_n hx hb d_Mo_same_66 rfl (lv_at hl 0 rfl) ?_
          refine rs_getR C hH hT h_v0 fk_11_31 tw_930 d_Mo_same_67 (fun h69 => ?_)
          refine lv_iload_n hx hb d_Mo_same_70 rfl (lv_at hl 2 rfl) ?_
          obtain ⟨g70, hF⟩ := hF
          refine rs_iald C hH h69 g70 d_Mo_same_71 ?_
          refine lv_icmp_ne hx hb d_Mo_same_72 (tgt := 109) rfl (fun hc => ?_) (fun hc => ?_)
          · replace hF := hF.1 hc
            exact JB_Mo_same_109 C v0 x1 x2 σ _ _ _ h_v0 hH hT hS (lv_sub hl [0, 1, 2] rfl) hF
          · replace hF := hF.2 hc
            refine lv_aload_n hx hb d_Mo_same_75 rfl (lv_at hl 0 rfl) ?_
            refine rs_getR C hH hT h_v0 fk_11_26 tw_925 d_Mo_same_76 (fun h71 => ?_)
            refine lv_iload_n hx hb d_Mo_same_79 rfl (lv_at hl 1 rfl) ?_
            obtain ⟨g72, hF⟩ := hF
            refine rs_iald C hH h71 g72 d_Mo_same_80 ?_
            refine lv_aload_n hx hb d_Mo_same_81 rfl (lv_at hl 0 rfl) ?_
            refine rs_getR C hH hT h_v0 fk_11_26 tw_925 d_Mo_same_82 (fun h73 => ?_)
            refine lv_iload_n hx hb d_Mo_same_85 rfl (lv_at hl 2 rfl) ?_
            obtain ⟨g74, hF⟩ := hF
            refine rs_iald C hH h73 g74 d_Mo_same_86 ?_
            refine lv_icmp_ne hx hb d_Mo_same_87 (tgt := 109) rfl (fun hc => ?_) (fun hc => ?_)
            · replace hF := hF.1 hc
              exact JB_Mo_same_109 C v0 x1 x2 σ _ _ _ h_v0 hH hT hS (lv_sub hl [0, 1, 2] rfl) hF
            · replace hF := hF.2 hc
              refine lv_aload_n hx hb d_Mo_same_90 rfl (lv_at hl 0 rfl) ?_
              refine rs_getR C hH hT h_v0 fk_11_32 tw_931 d_Mo_same_91 (fun h75 => ?_)
              refine lv_iload_n hx hb d_Mo_same_94 rfl (lv_at hl 1 rfl) ?_
              obtain ⟨g76, hF⟩ := hF
              refine rs_iald C hH h75 g76 d_Mo_same_95 ?_
              refine lv_aload_n hx hb d_Mo_same_96 rfl (lv_at hl 0 rfl) ?_
              refine rs_getR C hH hT h_v0 fk_11_32 tw_931 d_Mo_same_97 (fun h77 => ?_)
              refine lv_iload_n hx hb d_Mo_same_100 rfl (lv_at hl 2 rfl) ?_
              obtain ⟨g78, hF⟩ := hF
              refine rs_iald C hH h77 g78 d_Mo_same_101 ?_
              refine lv_icmp_ne hx hb d_Mo_same_102 (tgt := 109) rfl (fun hc => ?_) (fun hc => ?_)
              · replace hF := hF.1 hc
                exact JB_Mo_same_109 C v0 x1 x2 σ _ _ _ h_v0 hH hT hS (lv_sub hl [0, 1, 2] rfl) hF
              · replace hF := hF.2 hc
                refine lv_iconst hx hb d_Mo_same_105 ki_1 ?_
                refine lv_goto hx hb d_Mo_same_106 (tgt := 110) rfl ?_
                refine lv_istore_n hx hb d_Mo_same_110 rfl hl (by decide) (lv' := [(3, .int (1 : Int32)), (0, .ref (Bm + v0)), (1, .int x1), (2, .int x2)]) rfl (fun ls hl => ?_)
                refine lv_iconst hx hb d_Mo_same_111 ki_0 ?_
                refine lv_istore hx hb d_Mo_same_112 hl (by decide) (lv' := [(4, .int (0 : Int32)), (3, .int (1 : Int32)), (0, .ref (Bm + v0)), (1, .int x1), (2, .int x2)]) rfl (fun ls hl => ?_)
                obtain ⟨n, hF⟩ := hF
                exact JL_Mo_same_114 C n v0 x1 x2 (1 : Int32) (0 : Int32) σ _ _ _ h_v0 hH hT hS (lv_sub hl [2, 3, 4, 1, 0] rfl) hF
/-! RouteSpeakerModel.copy(II)V -/
theorem d_Mo_copy_0 : decode prog_12_method_41_code 0 = .ok (.aload_n 0, 1) := by decide +kernel
theorem d_Mo_copy_1 : decode prog_12_method_41_code 1 = .ok (.getfield 77, 3) := by decide +kernel
theorem d_Mo_copy_4 : decode prog_12_method_41_code 4 = .ok (.iload_n 2, 1) := by decide +kernel
theorem d_Mo_copy_5 : decode prog_12_method_41_code 5 = .ok (.aload_n 0, 1) := by decide +kernel
theorem d_Mo_copy_6 : decode prog_12_method_41_code 6 = .ok (.getfield 77, 3) := by decide +kernel
theorem d_Mo_copy_9 : decode prog_12_method_41_code 9 = .ok (.iload_n 1, 1) := by decide +kernel
theorem d_Mo_copy_10 : decode prog_12_method_41_code 10 = .ok (.iaload, 1) := by decide +kernel
theorem d_Mo_copy_11 : decode prog_12_method_41_code 11 = .ok (.iastore, 1) := by decide +kernel
theorem d_Mo_copy_12 : decode prog_12_method_41_code 12 = .ok (.aload_n 0, 1) := by decide +kernel
theorem d_Mo_copy_13 : decode prog_12_method_41_code 13 = .ok (.getfield 86, 3) := by decide +kernel
theorem d_Mo_copy_16 : decode prog_12_method_41_code 16 = .ok (.iload_n 2, 1) := by decide +kernel
theorem d_Mo_copy_17 : decode prog_12_method_41_code 17 = .ok (.aload_n 0, 1) := by decide +kernel
theorem d_Mo_copy_18 : decode prog_12_method_41_code 18 = .ok (.getfield 86, 3) := by decide +kernel
theorem d_Mo_copy_21 : decode prog_12_method_41_code 21 = .ok (.iload_n 1, 1) := by decide +kernel
theorem d_Mo_copy_22 : decode prog_12_method_41_code 22 = .ok (.iaload, 1) := by decide +kernel
theorem d_Mo_copy_23 : decode prog_12_method_41_code 23 = .ok (.iastore, 1) := by decide +kernel
theorem d_Mo_copy_24 : decode prog_12_method_41_code 24 = .ok (.aload_n 0, 1) := by decide +kernel
theorem d_Mo_copy_25 : decode prog_12_method_41_code 25 = .ok (.getfield 89, 3) := by decide +kernel
theorem d_Mo_copy_28 : decode prog_12_method_41_code 28 = .ok (.iload_n 2, 1) := by decide +kernel
theorem d_Mo_copy_29 : decode prog_12_method_41_code 29 = .ok (.aload_n 0, 1) := by decide +kernel
theorem d_Mo_copy_30 : decode prog_12_method_41_code 30 = .ok (.getfield 89, 3) := by decide +kernel
theorem d_Mo_copy_33 : decode prog_12_method_41_code 33 = .ok (.iload_n 1, 1) := by decide +kernel
theorem d_Mo_copy_34 : decode prog_12_method_41_code 34 = .ok (.iaload, 1) := by decide +kernel
theorem d_Mo_copy_35 : decode prog_12_method_41_code 35 = .ok (.iastore, 1) := by decide +kernel
theorem d_Mo_copy_36 : decode prog_12_method_41_code 36 = .ok (.aload_n 0, 1) := by decide +kernel
theorem d_Mo_copy_37 : decode prog_12_method_41_code 37 = .ok (.getfield 92, 3) := by decide +kernel
theorem d_Mo_copy_40 : decode prog_12_method_41_code 40 = .ok (.iload_n 2, 1) := by decide +kernel
theorem d_Mo_copy_41 : decode prog_12_method_41_code 41 = .ok (.aload_n 0, 1) := by decide +kernel
theorem d_Mo_copy_42 : decode prog_12_method_41_code 42 = .ok (.getfield 92, 3) := by decide +kernel
theorem d_Mo_copy_45 : decode prog_12_method_41_code 45 = .ok (.iload_n 1, 1) := by decide +kernel
theorem d_Mo_copy_46 : decode prog_12_method_41_code 46 = .ok (.iaload, 1) := by decide +kernel
theorem d_Mo_copy_47 : decode prog_12_method_41_code 47 = .ok (.iastore, 1) := by decide +kernel
theorem d_Mo_copy_48 : decode prog_12_method_41_code 48 = .ok (.aload_n 0, 1) := by decide +kernel
theorem d_Mo_copy_49 : decode prog_12_method_41_code 49 = .ok (.getfield 95, 3) := by decide +kernel
theorem d_Mo_copy_52 : decode prog_12_method_41_code 52 = .ok (.iload_n 2, 1) := by decide +kernel
theorem d_Mo_copy_53 : decode prog_12_method_41_code 53 = .ok (.aload_n 0, 1) := by decide +kernel
theorem d_Mo_copy_54 : decode prog_12_method_41_code 54 = .ok (.getfield 95, 3) := by decide +kernel
theorem d_Mo_copy_57 : decode prog_12_method_41_code 57 = .ok (.iload_n 1, 1) := by decide +kernel
theorem d_Mo_copy_58 : decode prog_12_method_41_code 58 = .ok (.iaload, 1) := by decide +kernel
theorem d_Mo_copy_59 : decode prog_12_method_41_code 59 = .ok (.iastore, 1) := by decide +kernel
theorem d_Mo_copy_60 : decode prog_12_method_41_code 60 = .ok (.aload_n 0, 1) := by decide +kernel
theorem d_Mo_copy_61 : decode prog_12_method_41_code 61 = .ok (.getfield 80, 3) := by decide +kernel
theorem d_Mo_copy_64 : decode prog_12_method_41_code 64 = .ok (.iload_n 2, 1) := by decide +kernel
theorem d_Mo_copy_65 : decode prog_12_method_41_code 65 = .ok (.aload_n 0, 1) := by decide +kernel
theorem d_Mo_copy_66 : decode prog_12_method_41_code 66 = .ok (.getfield 80, 3) := by decide +kernel
theorem d_Mo_copy_69 : decode prog_12_method_41_code 69 = .ok (.iload_n 1, 1) := by decide +kernel
theorem d_Mo_copy_70 : decode prog_12_method_41_code 70 = .ok (.iaload, 1) := by decide +kernel
theorem d_Mo_copy_71 : decode prog_12_method_41_code 71 = .ok (.iastore, 1) := by decide +kernel
theorem d_Mo_copy_72 : decode prog_12_method_41_code 72 = .ok (.aload_n 0, 1) := by decide +kernel
theorem d_Mo_copy_73 : decode prog_12_method_41_code 73 = .ok (.getfield 98, 3) := by decide +kernel
theorem d_Mo_copy_76 : decode prog_12_method_41_code 76 = .ok (.iload_n 2, 1) := by decide +kernel
theorem d_Mo_copy_77 : decode prog_12_method_41_code 77 = .ok (.aload_n 0, 1) := by decide +kernel
theorem d_Mo_copy_78 : decode prog_12_method_41_code 78 = .ok (.getfield 98, 3) := by decide +kernel
theorem d_Mo_copy_81 : decode prog_12_method_41_code 81 = .ok (.iload_n 1, 1) := by decide +kernel
theorem d_Mo_copy_82 : decode prog_12_method_41_code 82 = .ok (.iaload, 1) := by decide +kernel
theorem d_Mo_copy_83 : decode prog_12_method_41_code 83 = .ok (.iastore, 1) := by decide +kernel
theorem d_Mo_copy_84 : decode prog_12_method_41_code 84 = .ok (.iconst 0, 1) := by decide +kernel
theorem d_Mo_copy_85 : decode prog_12_method_41_code 85 = .ok (.istore_n 3, 1) := by decide +kernel
theorem d_Mo_copy_86 : decode prog_12_method_41_code 86 = .ok (.iload_n 3, 1) := by decide +kernel
theorem d_Mo_copy_87 : decode prog_12_method_41_code 87 = .ok (.aload_n 0, 1) := by decide +kernel
theorem d_Mo_copy_88 : decode prog_12_method_41_code 88 = .ok (.getfield 80, 3) := by decide +kernel
theorem d_Mo_copy_91 : decode prog_12_method_41_code 91 = .ok (.iload_n 1, 1) := by decide +kernel
theorem d_Mo_copy_92 : decode prog_12_method_41_code 92 = .ok (.iaload, 1) := by decide +kernel
theorem d_Mo_copy_93 : decode prog_12_method_41_code 93 = .ok (.if_icmp .ge (31), 3) := by decide +kernel
theorem d_Mo_copy_96 : decode prog_12_method_41_code 96 = .ok (.aload_n 0, 1) := by decide +kernel
theorem d_Mo_copy_97 : decode prog_12_method_41_code 97 = .ok (.getfield 83, 3) := by decide +kernel
theorem d_Mo_copy_100 : decode prog_12_method_41_code 100 = .ok (.bipush (8), 2) := by decide +kernel
theorem d_Mo_copy_102 : decode prog_12_method_41_code 102 = .ok (.iload_n 2, 1) := by decide +kernel
theorem d_Mo_copy_103 : decode prog_12_method_41_code 103 = .ok (.imul, 1) := by decide +kernel
theorem d_Mo_copy_104 : decode prog_12_method_41_code 104 = .ok (.iload_n 3, 1) := by decide +kernel
theorem d_Mo_copy_105 : decode prog_12_method_41_code 105 = .ok (.iadd, 1) := by decide +kernel
theorem d_Mo_copy_106 : decode prog_12_method_41_code 106 = .ok (.aload_n 0, 1) := by decide +kernel
theorem d_Mo_copy_107 : decode prog_12_method_41_code 107 = .ok (.getfield 83, 3) := by decide +kernel
theorem d_Mo_copy_110 : decode prog_12_method_41_code 110 = .ok (.bipush (8), 2) := by decide +kernel
theorem d_Mo_copy_112 : decode prog_12_method_41_code 112 = .ok (.iload_n 1, 1) := by decide +kernel
theorem d_Mo_copy_113 : decode prog_12_method_41_code 113 = .ok (.imul, 1) := by decide +kernel
theorem d_Mo_copy_114 : decode prog_12_method_41_code 114 = .ok (.iload_n 3, 1) := by decide +kernel
theorem d_Mo_copy_115 : decode prog_12_method_41_code 115 = .ok (.iadd, 1) := by decide +kernel
theorem d_Mo_copy_116 : decode prog_12_method_41_code 116 = .ok (.iaload, 1) := by decide +kernel
theorem d_Mo_copy_117 : decode prog_12_method_41_code 117 = .ok (.iastore, 1) := by decide +kernel
theorem d_Mo_copy_118 : decode prog_12_method_41_code 118 = .ok (.iinc 3 (1), 3) := by decide +kernel
theorem d_Mo_copy_121 : decode prog_12_method_41_code 121 = .ok (.goto (-35), 3) := by decide +kernel
theorem d_Mo_copy_124 : decode prog_12_method_41_code 124 = .ok (.iconst 0, 1) := by decide +kernel
theorem d_Mo_copy_125 : decode prog_12_method_41_code 125 = .ok (.istore_n 3, 1) := by decide +kernel
theorem d_Mo_copy_126 : decode prog_12_method_41_code 126 = .ok (.iload_n 3, 1) := by decide +kernel
theorem d_Mo_copy_127 : decode prog_12_method_41_code 127 = .ok (.aload_n 0, 1) := by decide +kernel
theorem d_Mo_copy_128 : decode prog_12_method_41_code 128 = .ok (.getfield 98, 3) := by decide +kernel
theorem d_Mo_copy_131 : decode prog_12_method_41_code 131 = .ok (.iload_n 1, 1) := by decide +kernel
theorem d_Mo_copy_132 : decode prog_12_method_41_code 132 = .ok (.iaload, 1) := by decide +kernel
theorem d_Mo_copy_133 : decode prog_12_method_41_code 133 = .ok (.if_icmp .ge (31), 3) := by decide +kernel
theorem d_Mo_copy_136 : decode prog_12_method_41_code 136 = .ok (.aload_n 0, 1) := by decide +kernel
theorem d_Mo_copy_137 : decode prog_12_method_41_code 137 = .ok (.getfield 101, 3) := by decide +kernel
theorem d_Mo_copy_140 : decode prog_12_method_41_code 140 = .ok (.bipush (6), 2) := by decide +kernel
theorem d_Mo_copy_142 : decode prog_12_method_41_code 142 = .ok (.iload_n 2, 1) := by decide +kernel
theorem d_Mo_copy_143 : decode prog_12_method_41_code 143 = .ok (.imul, 1) := by decide +kernel
theorem d_Mo_copy_144 : decode prog_12_method_41_code 144 = .ok (.iload_n 3, 1) := by decide +kernel
theorem d_Mo_copy_145 : decode prog_12_method_41_code 145 = .ok (.iadd, 1) := by decide +kernel
theorem d_Mo_copy_146 : decode prog_12_method_41_code 146 = .ok (.aload_n 0, 1) := by decide +kernel
theorem d_Mo_copy_147 : decode prog_12_method_41_code 147 = .ok (.getfield 101, 3) := by decide +kernel
theorem d_Mo_copy_150 : decode prog_12_method_41_code 150 = .ok (.bipush (6), 2) := by decide +kernel
theorem d_Mo_copy_152 : decode prog_12_method_41_code 152 = .ok (.iload_n 1, 1) := by decide +kernel
theorem d_Mo_copy_153 : decode prog_12_method_41_code 153 = .ok (.imul, 1) := by decide +kernel
theorem d_Mo_copy_154 : decode prog_12_method_41_code 154 = .ok (.iload_n 3, 1) := by decide +kernel
theorem d_Mo_copy_155 : decode prog_12_method_41_code 155 = .ok (.iadd, 1) := by decide +kernel
theorem d_Mo_copy_156 : decode prog_12_method_41_code 156 = .ok (.iaload, 1) := by decide +kernel
theorem d_Mo_copy_157 : decode prog_12_method_41_code 157 = .ok (.iastore, 1) := by decide +kernel
theorem d_Mo_copy_158 : decode prog_12_method_41_code 158 = .ok (.iinc 3 (1), 3) := by decide +kernel
theorem d_Mo_copy_161 : decode prog_12_method_41_code 161 = .ok (.goto (-35), 3) := by decide +kernel
theorem d_Mo_copy_164 : decode prog_12_method_41_code 164 = .ok (.return_, 1) := by decide +kernel
def G_Mo_copy_126 (N : Nat → Nat) (Q : rs_Mem → Prop) (K126 : Nat → Int32 → Int32 → Int32 → rs_Mem → Prop) (v0 : Nat) (x1 : Int32) (x2 : Int32) (x3 : Int32) (σ : rs_Mem) : Prop :=
  (vp_in x1 (N (rs_R σ v0 32)) ∧ (((rs_I σ (rs_R σ v0 32) x1.toNatClampNeg) ≤ x3 → (Q σ)) ∧ (¬ ((rs_I σ (rs_R σ v0 32) x1.toNatClampNeg) ≤ x3) → (vp_in (((6 : Int32) * x1) + x3) (N (rs_R σ v0 33)) ∧ (vp_in (((6 : Int32) * x2) + x3) (N (rs_R σ v0 33)) ∧ ∀ σ57 : rs_Mem, σ57 = rs_sI σ (rs_R σ v0 33) (((6 : Int32) * x2) + x3).toNatClampNeg (rs_I σ (rs_R σ v0 33) (((6 : Int32) * x1) + x3).toNatClampNeg) → (∀ x58 : Int32, x58 = x3 + (1 : Int32) → (K126 v0 x1 x2 x58 σ57)))))))
noncomputable def L_Mo_copy_126 (N : Nat → Nat) (Q : rs_Mem → Prop) (n : Nat) : Nat → Int32 → Int32 → Int32 → rs_Mem → Prop := Nat.rec (motive := fun _ => Nat → Int32 → Int32 → Int32 → rs_Mem → Prop) (fun _ _ _ _ _ => False) (fun _ K => G_Mo_copy_126 N Q K) n
def G_Mo_copy_86 (N : Nat → Nat) (Q : rs_Mem → Prop) (K86 : Nat → Int32 → Int32 → Int32 → rs_Mem → Prop) (v0 : Nat) (x1 : Int32) (x2 : Int32) (x3 : Int32) (σ : rs_Mem) : Prop :=
  (vp_in x1 (N (rs_R σ v0 26)) ∧ (((rs_I σ (rs_R σ v0 26) x1.toNatClampNeg) ≤ x3 → (∃ n : Nat, L_Mo_copy_126 N Q n v0 x1 x2 (0 : Int32) σ)) ∧ (¬ ((rs_I σ (rs_R σ v0 26) x1.toNatClampNeg) ≤ x3) → (vp_in (((8 : Int32) * x1) + x3) (N (rs_R σ v0 27)) ∧ (vp_in (((8 : Int32) * x2) + x3) (N (rs_R σ v0 27)) ∧ ∀ σ57 : rs_Mem, σ57 = rs_sI σ (rs_R σ v0 27) (((8 : Int32) * x2) + x3).toNatClampNeg (rs_I σ (rs_R σ v0 27) (((8 : Int32) * x1) + x3).toNatClampNeg) → (∀ x58 : Int32, x58 = x3 + (1 : Int32) → (K86 v0 x1 x2 x58 σ57)))))))
noncomputable def L_Mo_copy_86 (N : Nat → Nat) (Q : rs_Mem → Prop) (n : Nat) : Nat → Int32 → Int32 → Int32 → rs_Mem → Prop := Nat.rec (motive := fun _ => Nat → Int32 → Int32 → Int32 → rs_Mem → Prop) (fun _ _ _ _ _ => False) (fun _ K => G_Mo_copy_86 N Q K) n
def F_Mo_copy (N : Nat → Nat) (v0 : Nat) (x1 : Int32) (x2 : Int32) (σ : rs_Mem) (Q : rs_Mem → Prop) : Prop :=
  (vp_in x1 (N (rs_R σ v0 25)) ∧ (vp_in x2 (N (rs_R σ v0 25)) ∧ ∀ σ55 : rs_Mem, σ55 = rs_sI σ (rs_R σ v0 25) x2.toNatClampNeg (rs_I σ (rs_R σ v0 25) x1.toNatClampNeg) → (vp_in x1 (N (rs_R σ55 v0 28)) ∧ (vp_in x2 (N (rs_R σ55 v0 28)) ∧ ∀ σ60 : rs_Mem, σ60 = rs_sI σ55 (rs_R σ55 v0 28) x2.toNatClampNeg (rs_I σ55 (rs_R σ55 v0 28) x1.toNatClampNeg) → (vp_in x1 (N (rs_R σ60 v0 29)) ∧ (vp_in x2 (N (rs_R σ60 v0 29)) ∧ ∀ σ65 : rs_Mem, σ65 = rs_sI σ60 (rs_R σ60 v0 29) x2.toNatClampNeg (rs_I σ60 (rs_R σ60 v0 29) x1.toNatClampNeg) → (vp_in x1 (N (rs_R σ65 v0 30)) ∧ (vp_in x2 (N (rs_R σ65 v0 30)) ∧ ∀ σ70 : rs_Mem, σ70 = rs_sI σ65 (rs_R σ65 v0 30) x2.toNatClampNeg (rs_I σ65 (rs_R σ65 v0 30) x1.toNatClampNeg) → (vp_in x1 (N (rs_R σ70 v0 31)) ∧ (vp_in x2 (N (rs_R σ70 v0 31)) ∧ ∀ σ75 : rs_Mem, σ75 = rs_sI σ70 (rs_R σ70 v0 31) x2.toNatClampNeg (rs_I σ70 (rs_R σ70 v0 31) x1.toNatClampNeg) → (vp_in x1 (N (rs_R σ75 v0 26)) ∧ (vp_in x2 (N (rs_R σ75 v0 26)) ∧ ∀ σ80 : rs_Mem, σ80 = rs_sI σ75 (rs_R σ75 v0 26) x2.toNatClampNeg (rs_I σ75 (rs_R σ75 v0 26) x1.toNatClampNeg) → (vp_in x1 (N (rs_R σ80 v0 32)) ∧ (vp_in x2 (N (rs_R σ80 v0 32)) ∧ ∀ σ85 : rs_Mem, σ85 = rs_sI σ80 (rs_R σ80 v0 32) x2.toNatClampNeg (rs_I σ80 (rs_R σ80 v0 32) x1.toNatClampNeg) → (∃ n : Nat, L_Mo_copy_86 N Q n v0 x1 x2 (0 : Int32) σ85)))))))))))))))
set_option maxRecDepth 20000 in
theorem JL_Mo_copy_126 {p : Program} {l : Launch} {e : Env} {s : State} {m : MethodId} {args : Array Value} {below : List Frame} {meth : Method} {c : Code} {G : rs_G} {Bm : Nat} {S : rs_Shp} {Q : rs_Mem → Prop} (C : rs_C "RouteSpeakerModel" prog_12_method_41_code 4 none G p s m meth c args) : ∀ n : Nat, ∀ (v0 : Nat) (x1 : Int32) (x2 : Int32) (x3 : Int32) (σ : rs_Mem) (H : Heap) (locs : List Loc) (ls : Array Slot), rs_Ok S 11 v0 → rs_H G Bm S σ H → rs_T S σ → va_S (rs_A Bm) s.heap H locs → lv_has ls 4 [(0, .ref (Bm + v0)), (1, .int x1), (2, .int x2), (3, .int x3)] → (L_Mo_copy_126 S.2.2 Q n) v0 x1 x2 x3 σ → W p l e { frames := 0, cells := 0, slots := 0, locals := 0 } s m args below meth c H locs 0 0 (MQ below (rs_Qv G Bm S Q) args s 0 0 (rs_A Bm)) (F0 m 126 ls []) := by
  have hx := C.1
  have hb := C.2.1
  intro n
  induction n with
  | zero => intros; rename_i hF; exact hF.elim
  | succ n hK126 =>
    intro v0 x1 x2 x3 σ H locs ls h_v0 hH hT hS hl hF
    replace hF : G_Mo_copy_126 S.2.2 Q (L_Mo_copy_126 S.2.2 Q n) v0 x1 x2 x3 σ := hF
    unfold G_Mo_copy_126 at hF
    refine lv_iload_n hx hb d_Mo_copy_126 rfl (lv_at hl 3 rfl) ?_
    refine lv_aload_n hx hb d_Mo_copy_127 rfl (lv_at hl 0 rfl) ?_
    refine rs_getR C hH hT h_v0 fk_11_32 tw_931 d_Mo_copy_128 (fun h51 => ?_)
    refine lv_iload_n hx hb d_Mo_copy_131 rfl (lv_at hl 1 rfl) ?_
    obtain ⟨g52, hF⟩ := hF
    refine rs_iald C hH h51 g52 d_Mo_copy_132 ?_
    refine lv_icmp_ge hx hb d_Mo_copy_133 (tgt := 164) rfl (fun hc => ?_) (fun hc => ?_)
    · replace hF := hF.1 hc
      exact rs_vret C hH hT hS hF d_Mo_copy_164
    · replace hF := hF.2 hc
      refine lv_aload_n hx hb d_Mo_copy_136 rfl (lv_at hl 0 rfl) ?_
      refine rs_getR C hH hT h_v0 fk_11_33 tw_932 d_Mo_copy_137 (fun h53 => ?_)
      refine lv_bipush hx hb d_Mo_copy_140 kb_6 ?_
      refine lv_iload_n hx hb d_Mo_copy_142 rfl (lv_at hl 2 rfl) ?_
      refine lv_imul hx hb d_Mo_copy_143 ?_
      refine lv_iload_n hx hb d_Mo_copy_144 rfl (lv_at hl 3 rfl) ?_
      refine lv_iadd hx hb d_Mo_copy_145 ?_
      refine lv_aload_n hx hb d_Mo_copy_146 rfl (lv_at hl 0 rfl) ?_
      refine rs_getR C hH hT h_v0 fk_11_33 tw_932 d_Mo_copy_147 (fun h54 => ?_)
      refine lv_bipush hx hb d_Mo_copy_150 kb_6 ?_
      refine lv_iload_n hx hb d_Mo_copy_152 rfl (lv_at hl 1 rfl) ?_
      refine lv_imul hx hb d_Mo_copy_153 ?_
      refine lv_iload_n hx hb d_Mo_copy_154 rfl (lv_at hl 3 rfl) ?_
      refine lv_iadd hx hb d_Mo_copy_155 ?_
      obtain ⟨g55, hF⟩ := hF
      refine rs_iald C hH h54 g55 d_Mo_copy_156 ?_
      obtain ⟨g56, hF⟩ := hF
      refine rs_iast C hH hT hS h53 g56 d_Mo_copy_157 (fun σ57 H locs eσ57 hH hT hS => ?_)
      replace hF := hF σ57 eσ57
      obtain ⟨x58, ex58⟩ : ∃ z : Int32, z = x3 + (1 : Int32) := ⟨_, rfl⟩
      replace hF := hF x58 ex58
      refine lv_iinc hx hb d_Mo_copy_158 hl (k := 3) rfl (v := x58) (by rw [ki_1, ex58]) (by decide) (lv' := [(3, .int x58), (0, .ref (Bm + v0)), (1, .int x1), (2, .int x2)]) rfl (fun ls hl => ?_)
      refine lv_goto hx hb d_Mo_copy_161 (tgt := 126) rfl ?_
      exact hK126 v0 x1 x2 x58 σ57 _ _ _ h_v0 hH hT hS (lv_sub hl [1, 2, 3, 0] rfl) hF
set_option maxRecDepth 20000 in
theorem JL_Mo_copy_86 {p : Program} {l : Launch} {e : Env} {s : State} {m : MethodId} {args : Array Value} {below : List Frame} {meth : Method} {c : Code} {G : rs_G} {Bm : Nat} {S : rs_Shp} {Q : rs_Mem → Prop} (C : rs_C "RouteSpeakerModel" prog_12_method_41_code 4 none G p s m meth c args) : ∀ n : Nat, ∀ (v0 : Nat) (x1 : Int32) (x2 : Int32) (x3 : Int32) (σ : rs_Mem) (H : Heap) (locs : List Loc) (ls : Array Slot), rs_Ok S 11 v0 → rs_H G Bm S σ H → rs_T S σ → va_S (rs_A Bm) s.heap H locs → lv_has ls 4 [(0, .ref (Bm + v0)), (1, .int x1), (2, .int x2), (3, .int x3)] → (L_Mo_copy_86 S.2.2 Q n) v0 x1 x2 x3 σ → W p l e { frames := 0, cells := 0, slots := 0, locals := 0 } s m args below meth c H locs 0 0 (MQ below (rs_Qv G Bm S Q) args s 0 0 (rs_A Bm)) (F0 m 86 ls []) := by
  have hx := C.1
  have hb := C.2.1
  intro n
  induction n with
  | zero => intros; rename_i hF; exact hF.elim
  | succ n hK86 =>
    intro v0 x1 x2 x3 σ H locs ls h_v0 hH hT hS hl hF
    replace hF : G_Mo_copy_86 S.2.2 Q (L_Mo_copy_86 S.2.2 Q n) v0 x1 x2 x3 σ := hF
    unfold G_Mo_copy_86 at hF
    refine lv_iload_n hx hb d_Mo_copy_86 rfl (lv_at hl 3 rfl) ?_
    refine lv_aload_n hx hb d_Mo_copy_87 rfl (lv_at hl 0 rfl) ?_
    refine rs_getR C hH hT h_v0 fk_11_26 tw_925 d_Mo_copy_88 (fun h51 => ?_)
    refine lv_iload_n hx hb d_Mo_copy_91 rfl (lv_at hl 1 rfl) ?_
    obtain ⟨g52, hF⟩ := hF
    refine rs_iald C hH h51 g52 d_Mo_copy_92 ?_
    refine lv_icmp_ge hx hb d_Mo_copy_93 (tgt := 124) rfl (fun hc => ?_) (fun hc => ?_)
    · replace hF := hF.1 hc
      refine lv_iconst hx hb d_Mo_copy_124 ki_0 ?_
      refine lv_istore_n hx hb d_Mo_copy_125 rfl hl (by decide) (lv' := [(3, .int (0 : Int32)), (0, .ref (Bm + v0)), (1, .int x1), (2, .int x2)]) rfl (fun ls hl => ?_)
      obtain ⟨n, hF⟩ := hF
      exact JL_Mo_copy_126 C n v0 x1 x2 (0 : Int32) σ _ _ _ h_v0 hH hT hS (lv_sub hl [1, 2, 3, 0] rfl) hF
    · replace hF := hF.2 hc
      refine lv_aload_n hx hb d_Mo_copy_96 rfl (lv_at hl 0 rfl) ?_
      refine rs_getR C hH hT h_v0 fk_11_27 tw_926 d_Mo_copy_97 (fun h53 => ?_)
      refine lv_bipush hx hb d_Mo_copy_100 kb_8 ?_
      refine lv_iload_n hx hb d_Mo_copy_102 rfl (lv_at hl 2 rfl) ?_
      refine lv_imul hx hb d_Mo_copy_103 ?_
      refine lv_iload_n hx hb d_Mo_copy_104 rfl (lv_at hl 3 rfl) ?_
      refine lv_iadd hx hb d_Mo_copy_105 ?_
      refine lv_aload_n hx hb d_Mo_copy_106 rfl (lv_at hl 0 rfl) ?_
      refine rs_getR C hH hT h_v0 fk_11_27 tw_926 d_Mo_copy_107 (fun h54 => ?_)
      refine lv_bipush hx hb d_Mo_copy_110 kb_8 ?_
      refine lv_iload_n hx hb d_Mo_copy_112 rfl (lv_at hl 1 rfl) ?_
      refine lv_imul hx hb d_Mo_copy_113 ?_
      refine lv_iload_n hx hb d_Mo_copy_114 rfl (lv_at hl 3 rfl) ?_
      refine lv_iadd hx hb d_Mo_copy_115 ?_
      obtain ⟨g55, hF⟩ := hF
      refine rs_iald C hH h54 g55 d_Mo_copy_116 ?_
      obtain ⟨g56, hF⟩ := hF
      refine rs_iast C hH hT hS h53 g56 d_Mo_copy_117 (fun σ57 H locs eσ57 hH hT hS => ?_)
      replace hF := hF σ57 eσ57
      obtain ⟨x58, ex58⟩ : ∃ z : Int32, z = x3 + (1 : Int32) := ⟨_, rfl⟩
      replace hF := hF x58 ex58
      refine lv_iinc hx hb d_Mo_copy_118 hl (k := 3) rfl (v := x58) (by rw [ki_1, ex58]) (by decide) (lv' := [(3, .int x58), (0, .ref (Bm + v0)), (1, .int x1), (2, .int x2)]) rfl (fun ls hl => ?_)
      refine lv_goto hx hb d_Mo_copy_121 (tgt := 86) rfl ?_
      exact hK86 v0 x1 x2 x58 σ57 _ _ _ h_v0 hH hT hS (lv_sub hl [1, 2, 3, 0] rfl) hF
abbrev y_Mo_copy : MethodName := ({ cls := "RouteSpeakerModel", name := "copy", desc := "(II)V" } : Jvm.MethodName)
theorem rc_Mo_copy : rs_Cal y_Mo_copy prog_12_method_41_code 4 none 2 := ⟨tw_1253, tw_11, by decide, by decide, by decide +kernel⟩
set_option maxRecDepth 20000 in
theorem J_Mo_copy (l : Launch) {G : rs_G} {Bm : Nat} {S : rs_Shp} {v0 : Nat} {x1 : Int32} {x2 : Int32} {σ : rs_Mem} {Q : rs_Mem → Prop} (h_v0 : rs_Ok S 11 v0) (hF : F_Mo_copy S.2.2 v0 x1 x2 σ Q) :
    Met l y_Mo_copy (rs_ws y_Mo_copy prog_12_method_41_code 4 none) { frames := 0, cells := 0, slots := 0, locals := 0 } (rs_P G Bm S σ [.ref (Bm + v0), .int x1, .int x2]) (rs_Qv G Bm S Q) 0 0 (rs_A Bm) := by
  refine rs_met (own := "RouteSpeakerModel") (by decide) rfl (Nat.le_of_ble_eq_true rfl) (fun p e s m below meth c ls C hl hH hT hS => ?_)
  replace hl : lv_has ls 4 [(0, .ref (Bm + v0)), (1, .int x1), (2, .int x2)] := hl
  have hx := C.1
  have hb := C.2.1
  unfold F_Mo_copy at hF
  refine lv_aload_n hx hb d_Mo_copy_0 rfl (lv_at hl 0 rfl) ?_
  refine rs_getR C hH hT h_v0 fk_11_25 tw_924 d_Mo_copy_1 (fun h51 => ?_)
  refine lv_iload_n hx hb d_Mo_copy_4 rfl (lv_at hl 2 rfl) ?_
  refine lv_aload_n hx hb d_Mo_copy_5 rfl (lv_at hl 0 rfl) ?_
  refine rs_getR C hH hT h_v0 fk_11_25 tw_924 d_Mo_copy_6 (fun h52 => ?_)
  refine lv_iload_n hx hb d_Mo_copy_9 rfl (lv_at hl 1 rfl) ?_
  obtain ⟨g53, hF⟩ := hF
  refine rs_iald C hH h52 g53 d_Mo_copy_10 ?_
  obtain ⟨g54, hF⟩ := hF
  refine rs_iast C hH hT hS h51 g54 d_Mo_copy_11 (fun σ55 H locs eσ55 hH hT hS => ?_)
  replace hF := hF σ55 eσ55
  refine lv_aload_n hx hb d_Mo_copy_12 rfl (lv_at hl 0 rfl) ?_
  refine rs_getR C hH hT h_v0 fk_11_28 tw_927 d_Mo_copy_13 (fun h56 => ?_)
  refine lv_iload_n hx hb d_Mo_copy_16 rfl (lv_at hl 2 rfl) ?_
  refine lv_aload_n hx hb d_Mo_copy_17 rfl (lv_at hl 0 rfl) ?_
  refine rs_getR C hH hT h_v0 fk_11_28 tw_927 d_Mo_copy_18 (fun h57 => ?_)
  refine lv_iload_n hx hb d_Mo_copy_21 rfl (lv_at hl 1 rfl) ?_
  obtain ⟨g58, hF⟩ := hF
  refine rs_iald C hH h57 g58 d_Mo_copy_22 ?_
  obtain ⟨g59, hF⟩ := hF
  refine rs_iast C hH hT hS h56 g59 d_Mo_copy_23 (fun σ60 H locs eσ60 hH hT hS => ?_)
  replace hF := hF σ60 eσ60
  refine lv_aload_n hx hb d_Mo_copy_24 rfl (lv_at hl 0 rfl) ?_
  refine rs_getR C hH hT h_v0 fk_11_29 tw_928 d_Mo_copy_25 (fun h61 => ?_)
  refine lv_iload_n hx hb d_Mo_copy_28 rfl (lv_at hl 2 rfl) ?_
  refine lv_aload_n hx hb d_Mo_copy_29 rfl (lv_at hl 0 rfl) ?_
  refine rs_getR C hH hT h_v0 fk_11_29 tw_928 d_Mo_copy_30 (fun h62 => ?_)
  refine lv_iload_n hx hb d_Mo_copy_33 rfl (lv_at hl 1 rfl) ?_
  obtain ⟨g63, hF⟩ := hF
  refine rs_iald C hH h62 g63 d_Mo_copy_34 ?_
  obtain ⟨g64, hF⟩ := hF
  refine rs_iast C hH hT hS h61 g64 d_Mo_copy_35 (fun σ65 H locs eσ65 hH hT hS => ?_)
  replace hF := hF σ65 eσ65
  refine lv_aload_n hx hb d_Mo_copy_36 rfl (lv_at hl 0 rfl) ?_
  refine rs_getR C hH hT h_v0 fk_11_30 tw_929 d_Mo_copy_37 (fun h66 => ?_)
  refine lv_iload_n hx hb d_Mo_copy_40 rfl (lv_at hl 2 rfl) ?_
  refine lv_aload_n hx hb d_Mo_copy_41 rfl (lv_at hl 0 rfl) ?_
  refine rs_getR C hH hT h_v0 fk_11_30 tw_929 d_Mo_copy_42 (fun h67 => ?_)
  refine lv_iload_n hx hb d_Mo_copy_45 rfl (lv_at hl 1 rfl) ?_
  obtain ⟨g68, hF⟩ := hF
  refine rs_iald C hH h67 g68 d_Mo_copy_46 ?_
  obtain ⟨g69, hF⟩ := hF
  refine rs_iast C hH hT hS h66 g69 d_Mo_copy_47 (fun σ70 H locs eσ70 hH hT hS => ?_)
  replace hF := hF σ70 eσ70
  refine lv_aload_n hx hb d_Mo_copy_48 rfl (lv_at hl 0 rfl) ?_
  refine rs_getR C hH hT h_v0 fk_11_31 tw_930 d_Mo_copy_49 (fun h71 => ?_)
  refine lv_iload_n hx hb d_Mo_copy_52 rfl (lv_at hl 2 rfl) ?_
  refine lv_aload_n hx hb d_Mo_copy_53 rfl (lv_at hl 0 rfl) ?_
  refine rs_getR C hH hT h_v0 fk_11_31 tw_930 d_Mo_copy_54 (fun h72 => ?_)
  refine lv_iload_n hx hb d_Mo_copy_57 rfl (lv_at hl 1 rfl) ?_
  obtain ⟨g73, hF⟩ := hF
  refine rs_iald C hH h72 g73 d_Mo_copy_58 ?_
  obtain ⟨g74, hF⟩ := hF
  refine rs_iast C hH hT hS h71 g74 d_Mo_copy_59 (fun σ75 H locs eσ75 hH hT hS => ?_)
  replace hF := hF σ75 eσ75
  refine lv_aload_n hx hb d_Mo_copy_60 rfl (lv_at hl 0 rfl) ?_
  refine rs_getR C hH hT h_v0 fk_11_26 tw_925 d_Mo_copy_61 (fun h76 => ?_)
  refine lv_iload_n hx hb d_Mo_copy_64 rfl (lv_at hl 2 rfl) ?_
  refine lv_aload_n hx hb d_Mo_copy_65 rfl (lv_at hl 0 rfl) ?_
  refine rs_getR C hH hT h_v0 fk_11_26 tw_925 d_Mo_copy_66 (fun h77 => ?_)
  refine lv_iload_n hx hb d_Mo_copy_69 rfl (lv_at hl 1 rfl) ?_
  obtain ⟨g78, hF⟩ := hF
  refine rs_iald C hH h77 g78 d_Mo_copy_70 ?_
  obtain ⟨g79, hF⟩ := hF
  refine rs_iast C hH hT hS h76 g79 d_Mo_copy_71 (fun σ80 H locs eσ80 hH hT hS => ?_)
  replace hF := hF σ80 eσ80
  refine lv_aload_n hx hb d_Mo_copy_72 rfl (lv_at hl 0 rfl) ?_
  refine rs_getR C hH hT h_v0 fk_11_32 tw_931 d_Mo_copy_73 (fun h81 => ?_)
  refine lv_iload_n hx hb d_Mo_copy_76 rfl (lv_at hl 2 rfl) ?_
  refine lv_aload_n hx hb d_Mo_copy_77 rfl (lv_at hl 0 rfl) ?_
  refine rs_getR C hH hT h_v0 fk_11_32 tw_931 d_Mo_copy_78 (fun h82 => ?_)
  refine lv_iload_n hx hb d_Mo_copy_81 rfl (lv_at hl 1 rfl) ?_
  obtain ⟨g83, hF⟩ := hF
  refine rs_iald C hH h82 g83 d_Mo_copy_82 ?_
  obtain ⟨g84, hF⟩ := hF
  refine rs_iast C hH hT hS h81 g84 d_Mo_copy_83 (fun σ85 H locs eσ85 hH hT hS => ?_)
  replace hF := hF σ85 eσ85
  refine lv_iconst hx hb d_Mo_copy_84 ki_0 ?_
  refine lv_istore_n hx hb d_Mo_copy_85 rfl hl (by decide) (lv' := [(3, .int (0 : Int32)), (0, .ref (Bm + v0)), (1, .int x1), (2, .int x2)]) rfl (fun ls hl => ?_)
  obtain ⟨n, hF⟩ := hF
  exact JL_Mo_copy_86 C n v0 x1 x2 (0 : Int32) σ85 _ _ _ h_v0 hH hT hS (lv_sub hl [1, 2, 3, 0] rfl) hF
/-! RouteSpeakerModel.announce(III)V -/
theorem d_Mo_announce_0 : decode prog_12_method_44_code 0 = .ok (.bipush (12), 2) := by decide +kernel
theorem d_Mo_announce_2 : decode prog_12_method_44_code 2 = .ok (.iload_n 1, 1) := by decide +kernel
theorem d_Mo_announce_3 : decode prog_12_method_44_code 3 = .ok (.imul, 1) := by decide +kernel
theorem d_Mo_announce_4 : decode prog_12_method_44_code 4 = .ok (.aload_n 0, 1) := by decide +kernel
theorem d_Mo_announce_5 : decode prog_12_method_44_code 5 = .ok (.iload_n 2, 1) := by decide +kernel
theorem d_Mo_announce_6 : decode prog_12_method_44_code 6 = .ok (.iload_n 3, 1) := by decide +kernel
theorem d_Mo_announce_7 : decode prog_12_method_44_code 7 = .ok (.invokevirtual 171, 3) := by decide +kernel
theorem d_Mo_announce_10 : decode prog_12_method_44_code 10 = .ok (.iadd, 1) := by decide +kernel
theorem d_Mo_announce_11 : decode prog_12_method_44_code 11 = .ok (.istore 4, 2) := by decide +kernel
theorem d_Mo_announce_13 : decode prog_12_method_44_code 13 = .ok (.aload_n 0, 1) := by decide +kernel
theorem d_Mo_announce_14 : decode prog_12_method_44_code 14 = .ok (.aload_n 0, 1) := by decide +kernel
theorem d_Mo_announce_15 : decode prog_12_method_44_code 15 = .ok (.iload_n 1, 1) := by decide +kernel
theorem d_Mo_announce_16 : decode prog_12_method_44_code 16 = .ok (.invokevirtual 225, 3) := by decide +kernel
theorem d_Mo_announce_19 : decode prog_12_method_44_code 19 = .ok (.invokevirtual 239, 3) := by decide +kernel
theorem d_Mo_announce_22 : decode prog_12_method_44_code 22 = .ok (.aload_n 0, 1) := by decide +kernel
theorem d_Mo_announce_23 : decode prog_12_method_44_code 23 = .ok (.getfield 73, 3) := by decide +kernel
theorem d_Mo_announce_26 : decode prog_12_method_44_code 26 = .ok (.iload 4, 2) := by decide +kernel
theorem d_Mo_announce_28 : decode prog_12_method_44_code 28 = .ok (.baload, 1) := by decide +kernel
theorem d_Mo_announce_29 : decode prog_12_method_44_code 29 = .ok (.ifCond .eq (23), 3) := by decide +kernel
theorem d_Mo_announce_32 : decode prog_12_method_44_code 32 = .ok (.aload_n 0, 1) := by decide +kernel
theorem d_Mo_announce_33 : decode prog_12_method_44_code 33 = .ok (.iload 4, 2) := by decide +kernel
theorem d_Mo_announce_35 : decode prog_12_method_44_code 35 = .ok (.bipush (60), 2) := by decide +kernel
theorem d_Mo_announce_37 : decode prog_12_method_44_code 37 = .ok (.invokevirtual 243, 3) := by decide +kernel
theorem d_Mo_announce_40 : decode prog_12_method_44_code 40 = .ok (.ifCond .ne (12), 3) := by decide +kernel
theorem d_Mo_announce_43 : decode prog_12_method_44_code 43 = .ok (.aload_n 0, 1) := by decide +kernel
theorem d_Mo_announce_44 : decode prog_12_method_44_code 44 = .ok (.iload 4, 2) := by decide +kernel
theorem d_Mo_announce_46 : decode prog_12_method_44_code 46 = .ok (.ldc2_w 246, 3) := by decide +kernel
theorem d_Mo_announce_49 : decode prog_12_method_44_code 49 = .ok (.invokevirtual 235, 3) := by decide +kernel
theorem d_Mo_announce_52 : decode prog_12_method_44_code 52 = .ok (.aload_n 0, 1) := by decide +kernel
theorem d_Mo_announce_53 : decode prog_12_method_44_code 53 = .ok (.getfield 73, 3) := by decide +kernel
theorem d_Mo_announce_56 : decode prog_12_method_44_code 56 = .ok (.iload 4, 2) := by decide +kernel
theorem d_Mo_announce_58 : decode prog_12_method_44_code 58 = .ok (.iconst 1, 1) := by decide +kernel
theorem d_Mo_announce_59 : decode prog_12_method_44_code 59 = .ok (.bastore, 1) := by decide +kernel
theorem d_Mo_announce_60 : decode prog_12_method_44_code 60 = .ok (.aload_n 0, 1) := by decide +kernel
theorem d_Mo_announce_61 : decode prog_12_method_44_code 61 = .ok (.bipush (60), 2) := by decide +kernel
theorem d_Mo_announce_63 : decode prog_12_method_44_code 63 = .ok (.iload 4, 2) := by decide +kernel
theorem d_Mo_announce_65 : decode prog_12_method_44_code 65 = .ok (.invokevirtual 248, 3) := by decide +kernel
theorem d_Mo_announce_68 : decode prog_12_method_44_code 68 = .ok (.return_, 1) := by decide +kernel
def B_Mo_announce_52 (N : Nat → Nat) (Q : rs_Mem → Prop) (v0 : Nat) (x4 : Int32) (σ : rs_Mem) : Prop :=
  (vp_in x4 (N (rs_R σ v0 24)) ∧ ∀ σ53 : rs_Mem, σ53 = rs_sI σ (rs_R σ v0 24) x4.toNatClampNeg (1 : Int32) → (F_Mo_copy N v0 (60 : Int32) x4 σ53 (fun σ54 => (Q σ54))))
def F_Mo_announce (N : Nat → Nat) (v0 : Nat) (x1 : Int32) (x2 : Int32) (x3 : Int32) (σ : rs_Mem) (Q : rs_Mem → Prop) : Prop :=
  (F_Mo_learned N v0 x2 x3 σ (fun x52 σ51 => (∀ x53 : Int32, x53 = (((12 : Int32) * x1) + x52) → (F_Mo_isInternal N v0 x1 σ51 (fun x55 σ54 => (F_Mo_hand N v0 x55 σ54 (fun σ56 => (vp_in x53 (N (rs_R σ56 v0 24)) ∧ (((rs_I σ56 (rs_R σ56 v0 24) x53.toNatClampNeg) = 0 → (B_Mo_announce_52 N Q v0 x53 σ56)) ∧ (¬ ((rs_I σ56 (rs_R σ56 v0 24) x53.toNatClampNeg) = 0) → (F_Mo_same N v0 x53 (60 : Int32) σ56 (fun x60 σ59 => ((¬ (x60 = 0) → (B_Mo_announce_52 N Q v0 x53 σ59)) ∧ (x60 = 0 → (F_Mo_grows N v0 x53 (4647503709213818880 : UInt64) σ59 (fun σ61 => (B_Mo_announce_52 N Q v0 x53 σ61)))))))))))))))))
set_option maxRecDepth 20000 in
theorem JB_Mo_announce_52 {p : Program} {l : Launch} {e : Env} {s : State} {m : MethodId} {args : Array Value} {below : List Frame} {meth : Method} {c : Code} {G : rs_G} {Bm : Nat} {S : rs_Shp} {Q : rs_Mem → Prop} (C : rs_C "RouteSpeakerModel" prog_12_method_44_code 5 none G p s m meth c args) (v0 : Nat) (x4 : Int32) (σ : rs_Mem) (H : Heap) (locs : List Loc) (ls : Array Slot) (h_v0 : rs_Ok S 11 v0) (hH : rs_H G Bm S σ H) (hT : rs_T S σ) (hS : va_S (rs_A Bm) s.heap H locs) (hl : lv_has ls 5 [(0, .ref (Bm + v0)), (4, .int x4)]) (hF : B_Mo_announce_52 S.2.2 Q v0 x4 σ) :
    W p l e { frames := 2, cells := 0, slots := 0, locals := 46 } s m args below meth c H locs 0 0 (MQ below (rs_Qv G Bm S Q) args s 0 0 (rs_A Bm)) (F0 m 52 ls []) := by
  have hx := C.1
  have hb := C.2.1
  unfold B_Mo_announce_52 at hF
  refine lv_aload_n hx hb d_Mo_announce_52 rfl (lv_at hl 0 rfl) ?_
  refine rs_getR C hH hT h_v0 fk_11_24 tw_923 d_Mo_announce_53 (fun h51 => ?_)
  refine lv_iload hx hb d_Mo_announce_56 (lv_at hl 1 rfl) ?_
  refine lv_iconst hx hb d_Mo_announce_58 ki_1 ?_
  obtain ⟨g52, hF⟩ := hF
  refine rs_zast C hH hT hS (by decide) h51 g52 d_Mo_announce_59 (fun σ53 H locs eσ53 hH hT hS => ?_)
  replace hF := hF σ53 eσ53
  refine lv_aload_n hx hb d_Mo_announce_60 rfl (lv_at hl 0 rfl) ?_
  refine lv_bipush hx hb d_Mo_announce_61 kb_60 ?_
  refine lv_iload hx hb d_Mo_announce_63 (lv_at hl 1 rfl) ?_
  refine rs_cv (rs_runV C hH hT hl (J_Mo_copy l h_v0 hF) rc_Mo_copy tw_1250 tw_1252 ts_75 h_v0 ⟨rfl, by decide, by decide⟩ rfl ⟨⟨rfl, rfl⟩, by decide, by decide, by decide⟩ (Nat.le_of_ble_eq_true rfl) rfl d_Mo_announce_65) hS (fun σ54 H locs hH hT hS hF => ?_)
  exact rs_vret C hH hT hS hF d_Mo_announce_68
abbrev y_Mo_announce : MethodName := ({ cls := "RouteSpeakerModel", name := "announce", desc := "(III)V" } : Jvm.MethodName)
theorem rc_Mo_announce : rs_Cal y_Mo_announce prog_12_method_44_code 5 none 3 := ⟨tw_1236, tw_11, by decide, by decide, by decide +kernel⟩
set_option maxRecDepth 20000 in
theorem J_Mo_announce (l : Launch) {G : rs_G} {Bm : Nat} {S : rs_Shp} {v0 : Nat} {x1 : Int32} {x2 : Int32} {x3 : Int32} {σ : rs_Mem} {Q : rs_Mem → Prop} (h_v0 : rs_Ok S 11 v0) (hF : F_Mo_announce S.2.2 v0 x1 x2 x3 σ Q) :
    Met l y_Mo_announce (rs_ws y_Mo_announce prog_12_method_44_code 5 none) { frames := 2, cells := 0, slots := 0, locals := 46 } (rs_P G Bm S σ [.ref (Bm + v0), .int x1, .int x2, .int x3]) (rs_Qv G Bm S Q) 0 0 (rs_A Bm) := by
  refine rs_met (own := "RouteSpeakerModel") (by decide) rfl (Nat.le_of_ble_eq_true rfl) (fun p e s m below meth c ls C hl hH hT hS => ?_)
  replace hl : lv_has ls 5 [(0, .ref (Bm + v0)), (1, .int x1), (2, .int x2), (3, .int x3)] := hl
  have hx := C.1
  have hb := C.2.1
  unfold F_Mo_announce at hF
  refine lv_bipush hx hb d_Mo_announce_0 kb_12 ?_
  refine lv_iload_n hx hb d_Mo_announce_2 rfl (lv_at hl 1 rfl) ?_
  refine lv_imul hx hb d_Mo_announce_3 ?_
  refine lv_aload_n hx hb d_Mo_announce_4 rfl (lv_at hl 0 rfl) ?_
  refine lv_iload_n hx hb d_Mo_announce_5 rfl (lv_at hl 2 rfl) ?_
  refine lv_iload_n hx hb d_Mo_announce_6 rfl (lv_at hl 3 rfl) ?_
  refine rs_ci (rs_runV C hH hT hl (J_Mo_learned l h_v0 hF) rc_Mo_learned tw_1155 tw_1157 ts_57 h_v0 ⟨rfl, by decide, by decide⟩ rfl ⟨⟨rfl, rfl⟩, by decide, by decide, by decide⟩ (Nat.le_of_ble_eq_true rfl) rfl d_Mo_announce_7) hS (fun x52 σ51 H locs hH hT hS hF => ?_)
  refine lv_iadd hx hb d_Mo_announce_10 ?_
  refine lv_topi (fun x53 ex53 => ?_)
  replace hF := hF x53 ex53
  refine lv_istore hx hb d_Mo_announce_11 hl (by decide) (lv' := [(4, .int x53), (0, .ref (Bm + v0)), (1, .int x1), (2, .int x2), (3, .int x3)]) rfl (fun ls hl => ?_)
  refine lv_aload_n hx hb d_Mo_announce_13 rfl (lv_at hl 1 rfl) ?_
  refine lv_aload_n hx hb d_Mo_announce_14 rfl (lv_at hl 1 rfl) ?_
  refine lv_iload_n hx hb d_Mo_announce_15 rfl (lv_at hl 2 rfl) ?_
  refine rs_ci (rs_runV C hH hT hl (J_Mo_isInternal l h_v0 hF) rc_Mo_isInternal tw_1092 tw_1094 ts_46 h_v0 ⟨rfl, by decide, by decide⟩ rfl ⟨⟨rfl, rfl⟩, by decide, by decide, by decide⟩ (Nat.le_of_ble_eq_true rfl) rfl d_Mo_announce_16) hS (fun x55 σ54 H locs hH hT hS hF => ?_)
  refine rs_cv (rs_runV C hH hT hl (J_Mo_hand l h_v0 hF) rc_Mo_hand tw_1237 tw_1239 ts_72 h_v0 ⟨rfl, by decide, by decide⟩ rfl ⟨⟨rfl, rfl⟩, by decide, by decide, by decide⟩ (Nat.le_of_ble_eq_true rfl) rfl d_Mo_announce_19) hS (fun σ56 H locs hH hT hS hF => ?_)
  refine lv_aload_n hx hb d_Mo_announce_22 rfl (lv_at hl 1 rfl) ?_
  refine rs_getR C hH hT h_v0 fk_11_24 tw_923 d_Mo_announce_23 (fun h57 => ?_)
  refine lv_iload hx hb d_Mo_announce_26 (lv_at hl 0 rfl) ?_
  obtain ⟨g58, hF⟩ := hF
  refine rs_zald C hH h57 g58 d_Mo_announce_28 ?_
  refine lv_if_eq hx hb d_Mo_announce_29 (tgt := 52) rfl (fun hc => ?_) (fun hc => ?_)
  · replace hF := hF.1 hc
    exact JB_Mo_announce_52 C v0 x53 σ56 _ _ _ h_v0 hH hT hS (lv_sub hl [1, 0] rfl) hF
  · replace hF := hF.2 hc
    refine lv_aload_n hx hb d_Mo_announce_32 rfl (lv_at hl 1 rfl) ?_
    refine lv_iload hx hb d_Mo_announce_33 (lv_at hl 0 rfl) ?_
    refine lv_bipush hx hb d_Mo_announce_35 kb_60 ?_
    refine rs_ci (rs_runV C hH hT hl (J_Mo_same l h_v0 hF) rc_Mo_same tw_1245 tw_1247 ts_74 h_v0 ⟨rfl, by decide, by decide⟩ rfl ⟨⟨rfl, rfl⟩, by decide, by decide, by decide⟩ (Nat.le_of_ble_eq_true rfl) rfl d_Mo_announce_37) hS (fun x60 σ59 H locs hH hT hS hF => ?_)
    refine lv_if_ne hx hb d_Mo_announce_40 (tgt := 52) rfl (fun hc => ?_) (fun hc => ?_)
    · replace hF := hF.1 hc
      exact JB_Mo_announce_52 C v0 x53 σ59 _ _ _ h_v0 hH hT hS (lv_sub hl [1, 0] rfl) hF
    · replace hF := hF.2 hc
      refine lv_aload_n hx hb d_Mo_announce_43 rfl (lv_at hl 1 rfl) ?_
      refine lv_iload hx hb d_Mo_announce_44 (lv_at hl 0 rfl) ?_
      refine lv_ldc2d hx hb C.2.2.2.2.1 (C.2.2.2.2.2.1 _ tw_1249) d_Mo_announce_46 ?_
      refine rs_cv (rs_runV C hH hT hl (J_Mo_grows l h_v0 hF) rc_Mo_grows tw_1228 tw_1230 ts_70 h_v0 ⟨rfl, by decide, by decide⟩ rfl ⟨⟨rfl, rfl⟩, by decide, by decide, by decide⟩ (Nat.le_of_ble_eq_true rfl) rfl d_Mo_announce_49) hS (fun σ61 H locs hH hT hS hF => ?_)
      exact JB_Mo_announce_52 C v0 x53 σ61 _ _ _ h_v0 hH hT hS (lv_sub hl [1, 0] rfl) hF
/-! RouteSpeakerModel.update(III)V -/
theorem d_Mo_update_0 : decode prog_12_method_32_code 0 = .ok (.aload_n 0, 1) := by decide +kernel
theorem d_Mo_update_1 : decode prog_12_method_32_code 1 = .ok (.getfield 52, 3) := by decide +kernel
theorem d_Mo_update_4 : decode prog_12_method_32_code 4 = .ok (.iload_n 2, 1) := by decide +kernel
theorem d_Mo_update_5 : decode prog_12_method_32_code 5 = .ok (.iconst 2, 1) := by decide +kernel
theorem d_Mo_update_6 : decode prog_12_method_32_code 6 = .ok (.iadd, 1) := by decide +kernel
theorem d_Mo_update_7 : decode prog_12_method_32_code 7 = .ok (.iaload, 1) := by decide +kernel
theorem d_Mo_update_8 : decode prog_12_method_32_code 8 = .ok (.istore 4, 2) := by decide +kernel
theorem d_Mo_update_10 : decode prog_12_method_32_code 10 = .ok (.iload_n 2, 1) := by decide +kernel
theorem d_Mo_update_11 : decode prog_12_method_32_code 11 = .ok (.iconst 3, 1) := by decide +kernel
theorem d_Mo_update_12 : decode prog_12_method_32_code 12 = .ok (.iadd, 1) := by decide +kernel
theorem d_Mo_update_13 : decode prog_12_method_32_code 13 = .ok (.iconst 2, 1) := by decide +kernel
theorem d_Mo_update_14 : decode prog_12_method_32_code 14 = .ok (.iload 4, 2) := by decide +kernel
theorem d_Mo_update_16 : decode prog_12_method_32_code 16 = .ok (.imul, 1) := by decide +kernel
theorem d_Mo_update_17 : decode prog_12_method_32_code 17 = .ok (.iadd, 1) := by decide +kernel
theorem d_Mo_update_18 : decode prog_12_method_32_code 18 = .ok (.istore 5, 2) := by decide +kernel
theorem d_Mo_update_20 : decode prog_12_method_32_code 20 = .ok (.iload 5, 2) := by decide +kernel
theorem d_Mo_update_22 : decode prog_12_method_32_code 22 = .ok (.iload_n 3, 1) := by decide +kernel
theorem d_Mo_update_23 : decode prog_12_method_32_code 23 = .ok (.if_icmp .ge (39), 3) := by decide +kernel
theorem d_Mo_update_26 : decode prog_12_method_32_code 26 = .ok (.iload 5, 2) := by decide +kernel
theorem d_Mo_update_28 : decode prog_12_method_32_code 28 = .ok (.iconst 1, 1) := by decide +kernel
theorem d_Mo_update_29 : decode prog_12_method_32_code 29 = .ok (.iadd, 1) := by decide +kernel
theorem d_Mo_update_30 : decode prog_12_method_32_code 30 = .ok (.aload_n 0, 1) := by decide +kernel
theorem d_Mo_update_31 : decode prog_12_method_32_code 31 = .ok (.getfield 52, 3) := by decide +kernel
theorem d_Mo_update_34 : decode prog_12_method_32_code 34 = .ok (.iload 5, 2) := by decide +kernel
theorem d_Mo_update_36 : decode prog_12_method_32_code 36 = .ok (.iaload, 1) := by decide +kernel
theorem d_Mo_update_37 : decode prog_12_method_32_code 37 = .ok (.iadd, 1) := by decide +kernel
theorem d_Mo_update_38 : decode prog_12_method_32_code 38 = .ok (.iload_n 3, 1) := by decide +kernel
theorem d_Mo_update_39 : decode prog_12_method_32_code 39 = .ok (.if_icmp .gt (23), 3) := by decide +kernel
theorem d_Mo_update_42 : decode prog_12_method_32_code 42 = .ok (.iload_n 3, 1) := by decide +kernel
theorem d_Mo_update_43 : decode prog_12_method_32_code 43 = .ok (.iload 5, 2) := by decide +kernel
theorem d_Mo_update_45 : decode prog_12_method_32_code 45 = .ok (.isub, 1) := by decide +kernel
theorem d_Mo_update_46 : decode prog_12_method_32_code 46 = .ok (.iconst 1, 1) := by decide +kernel
theorem d_Mo_update_47 : decode prog_12_method_32_code 47 = .ok (.isub, 1) := by decide +kernel
theorem d_Mo_update_48 : decode prog_12_method_32_code 48 = .ok (.aload_n 0, 1) := by decide +kernel
theorem d_Mo_update_49 : decode prog_12_method_32_code 49 = .ok (.getfield 52, 3) := by decide +kernel
theorem d_Mo_update_52 : decode prog_12_method_32_code 52 = .ok (.iload 5, 2) := by decide +kernel
theorem d_Mo_update_54 : decode prog_12_method_32_code 54 = .ok (.iaload, 1) := by decide +kernel
theorem d_Mo_update_55 : decode prog_12_method_32_code 55 = .ok (.isub, 1) := by decide +kernel
theorem d_Mo_update_56 : decode prog_12_method_32_code 56 = .ok (.iconst 2, 1) := by decide +kernel
theorem d_Mo_update_57 : decode prog_12_method_32_code 57 = .ok (.irem, 1) := by decide +kernel
theorem d_Mo_update_58 : decode prog_12_method_32_code 58 = .ok (.iconst 1, 1) := by decide +kernel
theorem d_Mo_update_59 : decode prog_12_method_32_code 59 = .ok (.if_icmp .ne (11), 3) := by decide +kernel
theorem d_Mo_update_62 : decode prog_12_method_32_code 62 = .ok (.aload_n 0, 1) := by decide +kernel
theorem d_Mo_update_63 : decode prog_12_method_32_code 63 = .ok (.iload_n 1, 1) := by decide +kernel
theorem d_Mo_update_64 : decode prog_12_method_32_code 64 = .ok (.iconst 3, 1) := by decide +kernel
theorem d_Mo_update_65 : decode prog_12_method_32_code 65 = .ok (.iconst 1, 1) := by decide +kernel
theorem d_Mo_update_66 : decode prog_12_method_32_code 66 = .ok (.invokevirtual 174, 3) := by decide +kernel
theorem d_Mo_update_69 : decode prog_12_method_32_code 69 = .ok (.return_, 1) := by decide +kernel
theorem d_Mo_update_70 : decode prog_12_method_32_code 70 = .ok (.iload 5, 2) := by decide +kernel
theorem d_Mo_update_72 : decode prog_12_method_32_code 72 = .ok (.iconst 1, 1) := by decide +kernel
theorem d_Mo_update_73 : decode prog_12_method_32_code 73 = .ok (.iadd, 1) := by decide +kernel
theorem d_Mo_update_74 : decode prog_12_method_32_code 74 = .ok (.aload_n 0, 1) := by decide +kernel
theorem d_Mo_update_75 : decode prog_12_method_32_code 75 = .ok (.getfield 52, 3) := by decide +kernel
theorem d_Mo_update_78 : decode prog_12_method_32_code 78 = .ok (.iload 5, 2) := by decide +kernel
theorem d_Mo_update_80 : decode prog_12_method_32_code 80 = .ok (.iaload, 1) := by decide +kernel
theorem d_Mo_update_81 : decode prog_12_method_32_code 81 = .ok (.iadd, 1) := by decide +kernel
theorem d_Mo_update_82 : decode prog_12_method_32_code 82 = .ok (.istore 6, 2) := by decide +kernel
theorem d_Mo_update_84 : decode prog_12_method_32_code 84 = .ok (.aload_n 0, 1) := by decide +kernel
theorem d_Mo_update_85 : decode prog_12_method_32_code 85 = .ok (.iload 5, 2) := by decide +kernel
theorem d_Mo_update_87 : decode prog_12_method_32_code 87 = .ok (.iconst 1, 1) := by decide +kernel
theorem d_Mo_update_88 : decode prog_12_method_32_code 88 = .ok (.iadd, 1) := by decide +kernel
theorem d_Mo_update_89 : decode prog_12_method_32_code 89 = .ok (.iload 6, 2) := by decide +kernel
theorem d_Mo_update_91 : decode prog_12_method_32_code 91 = .ok (.invokevirtual 203, 3) := by decide +kernel
theorem d_Mo_update_94 : decode prog_12_method_32_code 94 = .ok (.istore 7, 2) := by decide +kernel
theorem d_Mo_update_96 : decode prog_12_method_32_code 96 = .ok (.iload 7, 2) := by decide +kernel
theorem d_Mo_update_98 : decode prog_12_method_32_code 98 = .ok (.ifCond .ne (16), 3) := by decide +kernel
theorem d_Mo_update_101 : decode prog_12_method_32_code 101 = .ok (.iload 6, 2) := by decide +kernel
theorem d_Mo_update_103 : decode prog_12_method_32_code 103 = .ok (.iload_n 3, 1) := by decide +kernel
theorem d_Mo_update_104 : decode prog_12_method_32_code 104 = .ok (.if_icmp .ge (10), 3) := by decide +kernel
theorem d_Mo_update_107 : decode prog_12_method_32_code 107 = .ok (.aload_n 0, 1) := by decide +kernel
theorem d_Mo_update_108 : decode prog_12_method_32_code 108 = .ok (.iload_n 1, 1) := by decide +kernel
theorem d_Mo_update_109 : decode prog_12_method_32_code 109 = .ok (.invokevirtual 206, 3) := by decide +kernel
theorem d_Mo_update_112 : decode prog_12_method_32_code 112 = .ok (.istore 7, 2) := by decide +kernel
theorem d_Mo_update_114 : decode prog_12_method_32_code 114 = .ok (.iload_n 2, 1) := by decide +kernel
theorem d_Mo_update_115 : decode prog_12_method_32_code 115 = .ok (.iconst 3, 1) := by decide +kernel
theorem d_Mo_update_116 : decode prog_12_method_32_code 116 = .ok (.iadd, 1) := by decide +kernel
theorem d_Mo_update_117 : decode prog_12_method_32_code 117 = .ok (.istore 8, 2) := by decide +kernel
theorem d_Mo_update_119 : decode prog_12_method_32_code 119 = .ok (.iload 8, 2) := by decide +kernel
theorem d_Mo_update_121 : decode prog_12_method_32_code 121 = .ok (.iload 5, 2) := by decide +kernel
theorem d_Mo_update_123 : decode prog_12_method_32_code 123 = .ok (.if_icmp .ge (44), 3) := by decide +kernel
theorem d_Mo_update_126 : decode prog_12_method_32_code 126 = .ok (.iload 7, 2) := by decide +kernel
theorem d_Mo_update_128 : decode prog_12_method_32_code 128 = .ok (.ifCond .ne (39), 3) := by decide +kernel
theorem d_Mo_update_131 : decode prog_12_method_32_code 131 = .ok (.aload_n 0, 1) := by decide +kernel
theorem d_Mo_update_132 : decode prog_12_method_32_code 132 = .ok (.getfield 52, 3) := by decide +kernel
theorem d_Mo_update_135 : decode prog_12_method_32_code 135 = .ok (.iload 8, 2) := by decide +kernel
theorem d_Mo_update_137 : decode prog_12_method_32_code 137 = .ok (.iaload, 1) := by decide +kernel
theorem d_Mo_update_138 : decode prog_12_method_32_code 138 = .ok (.aload_n 0, 1) := by decide +kernel
theorem d_Mo_update_139 : decode prog_12_method_32_code 139 = .ok (.getfield 52, 3) := by decide +kernel
theorem d_Mo_update_142 : decode prog_12_method_32_code 142 = .ok (.iload 8, 2) := by decide +kernel
theorem d_Mo_update_144 : decode prog_12_method_32_code 144 = .ok (.iconst 1, 1) := by decide +kernel
theorem d_Mo_update_145 : decode prog_12_method_32_code 145 = .ok (.iadd, 1) := by decide +kernel
theorem d_Mo_update_146 : decode prog_12_method_32_code 146 = .ok (.iaload, 1) := by decide +kernel
theorem d_Mo_update_147 : decode prog_12_method_32_code 147 = .ok (.invokestatic 167, 3) := by decide +kernel
theorem d_Mo_update_150 : decode prog_12_method_32_code 150 = .ok (.ifCond .eq (7), 3) := by decide +kernel
theorem d_Mo_update_153 : decode prog_12_method_32_code 153 = .ok (.iconst 0, 1) := by decide +kernel
theorem d_Mo_update_154 : decode prog_12_method_32_code 154 = .ok (.goto (5), 3) := by decide +kernel
theorem d_Mo_update_157 : decode prog_12_method_32_code 157 = .ok (.bipush (10), 2) := by decide +kernel
theorem d_Mo_update_159 : decode prog_12_method_32_code 159 = .ok (.istore 7, 2) := by decide +kernel
theorem d_Mo_update_161 : decode prog_12_method_32_code 161 = .ok (.iinc 8 (2), 3) := by decide +kernel
theorem d_Mo_update_164 : decode prog_12_method_32_code 164 = .ok (.goto (-45), 3) := by decide +kernel
theorem d_Mo_update_167 : decode prog_12_method_32_code 167 = .ok (.iload 6, 2) := by decide +kernel
theorem d_Mo_update_169 : decode prog_12_method_32_code 169 = .ok (.istore 8, 2) := by decide +kernel
theorem d_Mo_update_171 : decode prog_12_method_32_code 171 = .ok (.iload 8, 2) := by decide +kernel
theorem d_Mo_update_173 : decode prog_12_method_32_code 173 = .ok (.iload_n 3, 1) := by decide +kernel
theorem d_Mo_update_174 : decode prog_12_method_32_code 174 = .ok (.if_icmp .ge (44), 3) := by decide +kernel
theorem d_Mo_update_177 : decode prog_12_method_32_code 177 = .ok (.iload 7, 2) := by decide +kernel
theorem d_Mo_update_179 : decode prog_12_method_32_code 179 = .ok (.ifCond .ne (39), 3) := by decide +kernel
theorem d_Mo_update_182 : decode prog_12_method_32_code 182 = .ok (.aload_n 0, 1) := by decide +kernel
theorem d_Mo_update_183 : decode prog_12_method_32_code 183 = .ok (.getfield 52, 3) := by decide +kernel
theorem d_Mo_update_186 : decode prog_12_method_32_code 186 = .ok (.iload 8, 2) := by decide +kernel
theorem d_Mo_update_188 : decode prog_12_method_32_code 188 = .ok (.iaload, 1) := by decide +kernel
theorem d_Mo_update_189 : decode prog_12_method_32_code 189 = .ok (.aload_n 0, 1) := by decide +kernel
theorem d_Mo_update_190 : decode prog_12_method_32_code 190 = .ok (.getfield 52, 3) := by decide +kernel
theorem d_Mo_update_193 : decode prog_12_method_32_code 193 = .ok (.iload 8, 2) := by decide +kernel
theorem d_Mo_update_195 : decode prog_12_method_32_code 195 = .ok (.iconst 1, 1) := by decide +kernel
theorem d_Mo_update_196 : decode prog_12_method_32_code 196 = .ok (.iadd, 1) := by decide +kernel
theorem d_Mo_update_197 : decode prog_12_method_32_code 197 = .ok (.iaload, 1) := by decide +kernel
theorem d_Mo_update_198 : decode prog_12_method_32_code 198 = .ok (.invokestatic 167, 3) := by decide +kernel
theorem d_Mo_update_201 : decode prog_12_method_32_code 201 = .ok (.ifCond .eq (7), 3) := by decide +kernel
theorem d_Mo_update_204 : decode prog_12_method_32_code 204 = .ok (.iconst 0, 1) := by decide +kernel
theorem d_Mo_update_205 : decode prog_12_method_32_code 205 = .ok (.goto (5), 3) := by decide +kernel
theorem d_Mo_update_208 : decode prog_12_method_32_code 208 = .ok (.bipush (10), 2) := by decide +kernel
theorem d_Mo_update_210 : decode prog_12_method_32_code 210 = .ok (.istore 7, 2) := by decide +kernel
theorem d_Mo_update_212 : decode prog_12_method_32_code 212 = .ok (.iinc 8 (2), 3) := by decide +kernel
theorem d_Mo_update_215 : decode prog_12_method_32_code 215 = .ok (.goto (-44), 3) := by decide +kernel
theorem d_Mo_update_218 : decode prog_12_method_32_code 218 = .ok (.iload 7, 2) := by decide +kernel
theorem d_Mo_update_220 : decode prog_12_method_32_code 220 = .ok (.ifCond .le (14), 3) := by decide +kernel
theorem d_Mo_update_223 : decode prog_12_method_32_code 223 = .ok (.aload_n 0, 1) := by decide +kernel
theorem d_Mo_update_224 : decode prog_12_method_32_code 224 = .ok (.iload_n 1, 1) := by decide +kernel
theorem d_Mo_update_225 : decode prog_12_method_32_code 225 = .ok (.iconst 3, 1) := by decide +kernel
theorem d_Mo_update_226 : decode prog_12_method_32_code 226 = .ok (.iload 7, 2) := by decide +kernel
theorem d_Mo_update_228 : decode prog_12_method_32_code 228 = .ok (.invokevirtual 174, 3) := by decide +kernel
theorem d_Mo_update_231 : decode prog_12_method_32_code 231 = .ok (.goto (107), 3) := by decide +kernel
theorem d_Mo_update_234 : decode prog_12_method_32_code 234 = .ok (.aload_n 0, 1) := by decide +kernel
theorem d_Mo_update_235 : decode prog_12_method_32_code 235 = .ok (.getfield 134, 3) := by decide +kernel
theorem d_Mo_update_238 : decode prog_12_method_32_code 238 = .ok (.aload_n 0, 1) := by decide +kernel
theorem d_Mo_update_239 : decode prog_12_method_32_code 239 = .ok (.iload 6, 2) := by decide +kernel
theorem d_Mo_update_241 : decode prog_12_method_32_code 241 = .ok (.iload_n 3, 1) := by decide +kernel
theorem d_Mo_update_242 : decode prog_12_method_32_code 242 = .ok (.invokevirtual 209, 3) := by decide +kernel
theorem d_Mo_update_245 : decode prog_12_method_32_code 245 = .ok (.iadd, 1) := by decide +kernel
theorem d_Mo_update_246 : decode prog_12_method_32_code 246 = .ok (.bipush (12), 2) := by decide +kernel
theorem d_Mo_update_248 : decode prog_12_method_32_code 248 = .ok (.if_icmp .le (14), 3) := by decide +kernel
theorem d_Mo_update_251 : decode prog_12_method_32_code 251 = .ok (.aload_n 0, 1) := by decide +kernel
theorem d_Mo_update_252 : decode prog_12_method_32_code 252 = .ok (.iload_n 1, 1) := by decide +kernel
theorem d_Mo_update_253 : decode prog_12_method_32_code 253 = .ok (.bipush (6), 2) := by decide +kernel
theorem d_Mo_update_255 : decode prog_12_method_32_code 255 = .ok (.iconst 1, 1) := by decide +kernel
theorem d_Mo_update_256 : decode prog_12_method_32_code 256 = .ok (.invokevirtual 174, 3) := by decide +kernel
theorem d_Mo_update_259 : decode prog_12_method_32_code 259 = .ok (.goto (79), 3) := by decide +kernel
theorem d_Mo_update_262 : decode prog_12_method_32_code 262 = .ok (.iload_n 2, 1) := by decide +kernel
theorem d_Mo_update_263 : decode prog_12_method_32_code 263 = .ok (.iconst 3, 1) := by decide +kernel
theorem d_Mo_update_264 : decode prog_12_method_32_code 264 = .ok (.iadd, 1) := by decide +kernel
theorem d_Mo_update_265 : decode prog_12_method_32_code 265 = .ok (.istore 8, 2) := by decide +kernel
theorem d_Mo_update_267 : decode prog_12_method_32_code 267 = .ok (.iload 8, 2) := by decide +kernel
theorem d_Mo_update_269 : decode prog_12_method_32_code 269 = .ok (.iload 5, 2) := by decide +kernel
theorem d_Mo_update_271 : decode prog_12_method_32_code 271 = .ok (.if_icmp .ge (30), 3) := by decide +kernel
theorem d_Mo_update_274 : decode prog_12_method_32_code 274 = .ok (.aload_n 0, 1) := by decide +kernel
theorem d_Mo_update_275 : decode prog_12_method_32_code 275 = .ok (.iload_n 1, 1) := by decide +kernel
theorem d_Mo_update_276 : decode prog_12_method_32_code 276 = .ok (.aload_n 0, 1) := by decide +kernel
theorem d_Mo_update_277 : decode prog_12_method_32_code 277 = .ok (.getfield 52, 3) := by decide +kernel
theorem d_Mo_update_280 : decode prog_12_method_32_code 280 = .ok (.iload 8, 2) := by decide +kernel
theorem d_Mo_update_282 : decode prog_12_method_32_code 282 = .ok (.iaload, 1) := by decide +kernel
theorem d_Mo_update_283 : decode prog_12_method_32_code 283 = .ok (.aload_n 0, 1) := by decide +kernel
theorem d_Mo_update_284 : decode prog_12_method_32_code 284 = .ok (.getfield 52, 3) := by decide +kernel
theorem d_Mo_update_287 : decode prog_12_method_32_code 287 = .ok (.iload 8, 2) := by decide +kernel
theorem d_Mo_update_289 : decode prog_12_method_32_code 289 = .ok (.iconst 1, 1) := by decide +kernel
theorem d_Mo_update_290 : decode prog_12_method_32_code 290 = .ok (.iadd, 1) := by decide +kernel
theorem d_Mo_update_291 : decode prog_12_method_32_code 291 = .ok (.iaload, 1) := by decide +kernel
theorem d_Mo_update_292 : decode prog_12_method_32_code 292 = .ok (.invokevirtual 212, 3) := by decide +kernel
theorem d_Mo_update_295 : decode prog_12_method_32_code 295 = .ok (.iinc 8 (2), 3) := by decide +kernel
theorem d_Mo_update_298 : decode prog_12_method_32_code 298 = .ok (.goto (-31), 3) := by decide +kernel
theorem d_Mo_update_301 : decode prog_12_method_32_code 301 = .ok (.iload 6, 2) := by decide +kernel
theorem d_Mo_update_303 : decode prog_12_method_32_code 303 = .ok (.istore 8, 2) := by decide +kernel
theorem d_Mo_update_305 : decode prog_12_method_32_code 305 = .ok (.iload 8, 2) := by decide +kernel
theorem d_Mo_update_307 : decode prog_12_method_32_code 307 = .ok (.iload_n 3, 1) := by decide +kernel
theorem d_Mo_update_308 : decode prog_12_method_32_code 308 = .ok (.if_icmp .ge (30), 3) := by decide +kernel
theorem d_Mo_update_311 : decode prog_12_method_32_code 311 = .ok (.aload_n 0, 1) := by decide +kernel
theorem d_Mo_update_312 : decode prog_12_method_32_code 312 = .ok (.iload_n 1, 1) := by decide +kernel
theorem d_Mo_update_313 : decode prog_12_method_32_code 313 = .ok (.aload_n 0, 1) := by decide +kernel
theorem d_Mo_update_314 : decode prog_12_method_32_code 314 = .ok (.getfield 52, 3) := by decide +kernel
theorem d_Mo_update_317 : decode prog_12_method_32_code 317 = .ok (.iload 8, 2) := by decide +kernel
theorem d_Mo_update_319 : decode prog_12_method_32_code 319 = .ok (.iaload, 1) := by decide +kernel
theorem d_Mo_update_320 : decode prog_12_method_32_code 320 = .ok (.aload_n 0, 1) := by decide +kernel
theorem d_Mo_update_321 : decode prog_12_method_32_code 321 = .ok (.getfield 52, 3) := by decide +kernel
theorem d_Mo_update_324 : decode prog_12_method_32_code 324 = .ok (.iload 8, 2) := by decide +kernel
theorem d_Mo_update_326 : decode prog_12_method_32_code 326 = .ok (.iconst 1, 1) := by decide +kernel
theorem d_Mo_update_327 : decode prog_12_method_32_code 327 = .ok (.iadd, 1) := by decide +kernel
theorem d_Mo_update_328 : decode prog_12_method_32_code 328 = .ok (.iaload, 1) := by decide +kernel
theorem d_Mo_update_329 : decode prog_12_method_32_code 329 = .ok (.invokevirtual 215, 3) := by decide +kernel
theorem d_Mo_update_332 : decode prog_12_method_32_code 332 = .ok (.iinc 8 (2), 3) := by decide +kernel
theorem d_Mo_update_335 : decode prog_12_method_32_code 335 = .ok (.goto (-30), 3) := by decide +kernel
theorem d_Mo_update_338 : decode prog_12_method_32_code 338 = .ok (.return_, 1) := by decide +kernel
def B_Mo_update_62 (N : Nat → Nat) (Q : rs_Mem → Prop) (v0 : Nat) (x1 : Int32) (σ : rs_Mem) : Prop :=
  (F_Mo_end N v0 x1 (3 : Int32) (1 : Int32) σ (fun σ51 => (Q σ51)))
def G_Mo_update_305 (N : Nat → Nat) (Q : rs_Mem → Prop) (K305 : Nat → Int32 → Int32 → Int32 → rs_Mem → Prop) (v0 : Nat) (x1 : Int32) (x3 : Int32) (x8 : Int32) (σ : rs_Mem) : Prop :=
  ((x3 ≤ x8 → (Q σ)) ∧ (¬ (x3 ≤ x8) → (vp_in x8 (N (rs_R σ v0 15)) ∧ (vp_in (x8 + (1 : Int32)) (N (rs_R σ v0 15)) ∧ (F_Mo_announce N v0 x1 (rs_I σ (rs_R σ v0 15) x8.toNatClampNeg) (rs_I σ (rs_R σ v0 15) (x8 + (1 : Int32)).toNatClampNeg) σ (fun σ55 => (∀ x56 : Int32, x56 = x8 + (2 : Int32) → (K305 v0 x1 x3 x56 σ55))))))))
noncomputable def L_Mo_update_305 (N : Nat → Nat) (Q : rs_Mem → Prop) (n : Nat) : Nat → Int32 → Int32 → Int32 → rs_Mem → Prop := Nat.rec (motive := fun _ => Nat → Int32 → Int32 → Int32 → rs_Mem → Prop) (fun _ _ _ _ _ => False) (fun _ K => G_Mo_update_305 N Q K) n
def G_Mo_update_267 (N : Nat → Nat) (Q : rs_Mem → Prop) (K267 : Nat → Int32 → Int32 → Int32 → Int32 → Int32 → rs_Mem → Prop) (v0 : Nat) (x1 : Int32) (x3 : Int32) (x5 : Int32) (x6 : Int32) (x8 : Int32) (σ : rs_Mem) : Prop :=
  ((x5 ≤ x8 → (∃ n : Nat, L_Mo_update_305 N Q n v0 x1 x3 x6 σ)) ∧ (¬ (x5 ≤ x8) → (vp_in x8 (N (rs_R σ v0 15)) ∧ (vp_in (x8 + (1 : Int32)) (N (rs_R σ v0 15)) ∧ (F_Mo_withdraw N v0 x1 (rs_I σ (rs_R σ v0 15) x8.toNatClampNeg) (rs_I σ (rs_R σ v0 15) (x8 + (1 : Int32)).toNatClampNeg) σ (fun σ55 => (∀ x56 : Int32, x56 = x8 + (2 : Int32) → (K267 v0 x1 x3 x5 x6 x56 σ55))))))))
noncomputable def L_Mo_update_267 (N : Nat → Nat) (Q : rs_Mem → Prop) (n : Nat) : Nat → Int32 → Int32 → Int32 → Int32 → Int32 → rs_Mem → Prop := Nat.rec (motive := fun _ => Nat → Int32 → Int32 → Int32 → Int32 → Int32 → rs_Mem → Prop) (fun _ _ _ _ _ _ _ => False) (fun _ K => G_Mo_update_267 N Q K) n
def B_Mo_update_218 (N : Nat → Nat) (Q : rs_Mem → Prop) (v0 : Nat) (x1 : Int32) (x2 : Int32) (x3 : Int32) (x5 : Int32) (x6 : Int32) (x7 : Int32) (σ : rs_Mem) : Prop :=
  ((x7 ≤ 0 → (F_Mo_fresh N v0 x6 x3 σ (fun x52 σ51 => ((((rs_I σ v0 21) + x52) ≤ (12 : Int32) → (∀ x53 : Int32, x53 = (x2 + (3 : Int32)) → (∃ n : Nat, L_Mo_update_267 N Q n v0 x1 x3 x5 x6 x53 σ51))) ∧ (¬ (((rs_I σ v0 21) + x52) ≤ (12 : Int32)) → (F_Mo_end N v0 x1 (6 : Int32) (1 : Int32) σ51 (fun σ53 => (Q σ53)))))))) ∧ (¬ (x7 ≤ 0) → (F_Mo_end N v0 x1 (3 : Int32) x7 σ (fun σ51 => (Q σ51)))))
def G_Mo_update_171 (N : Nat → Nat) (Q : rs_Mem → Prop) (K171 : Nat → Int32 → Int32 → Int32 → Int32 → Int32 → Int32 → Int32 → rs_Mem → Prop) (v0 : Nat) (x1 : Int32) (x2 : Int32) (x3 : Int32) (x5 : Int32) (x6 : Int32) (x7 : Int32) (x8 : Int32) (σ : rs_Mem) : Prop :=
  ((x3 ≤ x8 → (B_Mo_update_218 N Q v0 x1 x2 x3 x5 x6 x7 σ)) ∧ (¬ (x3 ≤ x8) → ((¬ (x7 = 0) → (B_Mo_update_218 N Q v0 x1 x2 x3 x5 x6 x7 σ)) ∧ (x7 = 0 → (vp_in x8 (N (rs_R σ v0 15)) ∧ (vp_in (x8 + (1 : Int32)) (N (rs_R σ v0 15)) ∧ (F_Mo_isPrefix N (rs_I σ (rs_R σ v0 15) x8.toNatClampNeg) (rs_I σ (rs_R σ v0 15) (x8 + (1 : Int32)).toNatClampNeg) σ (fun x56 σ55 => ((x56 = 0 → (∀ x57 : Int32, x57 = x8 + (2 : Int32) → (K171 v0 x1 x2 x3 x5 x6 (10 : Int32) x57 σ55))) ∧ (¬ (x56 = 0) → (∀ x57 : Int32, x57 = x8 + (2 : Int32) → (K171 v0 x1 x2 x3 x5 x6 (0 : Int32) x57 σ55))))))))))))
noncomputable def L_Mo_update_171 (N : Nat → Nat) (Q : rs_Mem → Prop) (n : Nat) : Nat → Int32 → Int32 → Int32 → Int32 → Int32 → Int32 → Int32 → rs_Mem → Prop := Nat.rec (motive := fun _ => Nat → Int32 → Int32 → Int32 → Int32 → Int32 → Int32 → Int32 → rs_Mem → Prop) (fun _ _ _ _ _ _ _ _ _ => False) (fun _ K => G_Mo_update_171 N Q K) n
def G_Mo_update_119 (N : Nat → Nat) (Q : rs_Mem → Prop) (K119 : Nat → Int32 → Int32 → Int32 → Int32 → Int32 → Int32 → Int32 → rs_Mem → Prop) (v0 : Nat) (x1 : Int32) (x2 : Int32) (x3 : Int32) (x5 : Int32) (x6 : Int32) (x7 : Int32) (x8 : Int32) (σ : rs_Mem) : Prop :=
  ((x5 ≤ x8 → (∃ n : Nat, L_Mo_update_171 N Q n v0 x1 x2 x3 x5 x6 x7 x6 σ)) ∧ (¬ (x5 ≤ x8) → ((¬ (x7 = 0) → (∃ n : Nat, L_Mo_update_171 N Q n v0 x1 x2 x3 x5 x6 x7 x6 σ)) ∧ (x7 = 0 → (vp_in x8 (N (rs_R σ v0 15)) ∧ (vp_in (x8 + (1 : Int32)) (N (rs_R σ v0 15)) ∧ (F_Mo_isPrefix N (rs_I σ (rs_R σ v0 15) x8.toNatClampNeg) (rs_I σ (rs_R σ v0 15) (x8 + (1 : Int32)).toNatClampNeg) σ (fun x56 σ55 => ((x56 = 0 → (∀ x57 : Int32, x57 = x8 + (2 : Int32) → (K119 v0 x1 x2 x3 x5 x6 (10 : Int32) x57 σ55))) ∧ (¬ (x56 = 0) → (∀ x57 : Int32, x57 = x8 + (2 : Int32) → (K119 v0 x1 x2 x3 x5 x6 (0 : Int32) x57 σ55))))))))))))
noncomputable def L_Mo_update_119 (N : Nat → Nat) (Q : rs_Mem → Prop) (n : Nat) : Nat → Int32 → Int32 → Int32 → Int32 → Int32 → Int32 → Int32 → rs_Mem → Prop := Nat.rec (motive := fun _ => Nat → Int32 → Int32 → Int32 → Int32 → Int32 → Int32 → Int32 → rs_Mem → Prop) (fun _ _ _ _ _ _ _ _ _ => False) (fun _ K => G_Mo_update_119 N Q K) n
def B_Mo_update_114 (N : Nat → Nat) (Q : rs_Mem → Prop) (v0 : Nat) (x1 : Int32) (x2 : Int32) (x3 : Int32) (x5 : Int32) (x6 : Int32) (x7 : Int32) (σ : rs_Mem) : Prop :=
  (∀ x51 : Int32, x51 = (x2 + (3 : Int32)) → (∃ n : Nat, L_Mo_update_119 N Q n v0 x1 x2 x3 x5 x6 x7 x51 σ))
def F_Mo_update (N : Nat → Nat) (v0 : Nat) (x1 : Int32) (x2 : Int32) (x3 : Int32) (σ : rs_Mem) (Q : rs_Mem → Prop) : Prop :=
  (vp_in (x2 + (2 : Int32)) (N (rs_R σ v0 15)) ∧ (∀ x53 : Int32, x53 = (rs_I σ (rs_R σ v0 15) (x2 + (2 : Int32)).toNatClampNeg) → (∀ x54 : Int32, x54 = ((x2 + (3 : Int32)) + ((2 : Int32) * x53)) → ((x3 ≤ x54 → (B_Mo_update_62 N Q v0 x1 σ)) ∧ (¬ (x3 ≤ x54) → (vp_in x54 (N (rs_R σ v0 15)) ∧ ((x3 < ((x54 + (1 : Int32)) + (rs_I σ (rs_R σ v0 15) x54.toNatClampNeg)) → (B_Mo_update_62 N Q v0 x1 σ)) ∧ (¬ (x3 < ((x54 + (1 : Int32)) + (rs_I σ (rs_R σ v0 15) x54.toNatClampNeg))) → (vp_in x54 (N (rs_R σ v0 15)) ∧ ((¬ (((((x3 - x54) - (1 : Int32)) - (rs_I σ (rs_R σ v0 15) x54.toNatClampNeg)) - (((x3 - x54) - (1 : Int32)) - (rs_I σ (rs_R σ v0 15) x54.toNatClampNeg)) / (2 : Int32) * (2 : Int32)) = (1 : Int32)) → (vp_in x54 (N (rs_R σ v0 15)) ∧ (∀ x61 : Int32, x61 = ((x54 + (1 : Int32)) + (rs_I σ (rs_R σ v0 15) x54.toNatClampNeg)) → (F_Mo_badAttributes N v0 (x54 + (1 : Int32)) x61 σ (fun x63 σ62 => ((¬ (x63 = 0) → (B_Mo_update_114 N Q v0 x1 x2 x3 x54 x61 x63 σ62)) ∧ (x63 = 0 → ((x3 ≤ x61 → (B_Mo_update_114 N Q v0 x1 x2 x3 x54 x61 x63 σ62)) ∧ (¬ (x3 ≤ x61) → (F_Mo_badRoute N v0 x1 σ62 (fun x65 σ64 => (B_Mo_update_114 N Q v0 x1 x2 x3 x54 x61 x65 σ64)))))))))))) ∧ (((((x3 - x54) - (1 : Int32)) - (rs_I σ (rs_R σ v0 15) x54.toNatClampNeg)) - (((x3 - x54) - (1 : Int32)) - (rs_I σ (rs_R σ v0 15) x54.toNatClampNeg)) / (2 : Int32) * (2 : Int32)) = (1 : Int32) → (B_Mo_update_62 N Q v0 x1 σ))))))))))))
set_option maxRecDepth 20000 in
theorem JB_Mo_update_62 {p : Program} {l : Launch} {e : Env} {s : State} {m : MethodId} {args : Array Value} {below : List Frame} {meth : Method} {c : Code} {G : rs_G} {Bm : Nat} {S : rs_Shp} {Q : rs_Mem → Prop} (C : rs_C "RouteSpeakerModel" prog_12_method_32_code 9 none G p s m meth c args) (v0 : Nat) (x1 : Int32) (σ : rs_Mem) (H : Heap) (locs : List Loc) (ls : Array Slot) (h_v0 : rs_Ok S 11 v0) (hH : rs_H G Bm S σ H) (hT : rs_T S σ) (hS : va_S (rs_A Bm) s.heap H locs) (hl : lv_has ls 9 [(0, .ref (Bm + v0)), (1, .int x1)]) (hF : B_Mo_update_62 S.2.2 Q v0 x1 σ) :
    W p l e { frames := 3, cells := 0, slots := 0, locals := 71 } s m args below meth c H locs 0 0 (MQ below (rs_Qv G Bm S Q) args s 0 0 (rs_A Bm)) (F0 m 62 ls []) := by
  have hx := C.1
  have hb := C.2.1
  unfold B_Mo_update_62 at hF
  refine lv_aload_n hx hb d_Mo_update_62 rfl (lv_at hl 0 rfl) ?_
  refine lv_iload_n hx hb d_Mo_update_63 rfl (lv_at hl 1 rfl) ?_
  refine lv_iconst hx hb d_Mo_update_64 ki_3 ?_
  refine lv_iconst hx hb d_Mo_update_65 ki_1 ?_
  refine rs_cv (rs_runV C hH hT hl (J_Mo_end l h_v0 hF) rc_Mo_end tw_1171 tw_1173 ts_58 h_v0 ⟨rfl, by decide, by decide⟩ rfl ⟨⟨rfl, rfl⟩, by decide, by decide, by decide⟩ (Nat.le_of_ble_eq_true rfl) rfl d_Mo_update_66) hS (fun σ51 H locs hH hT hS hF => ?_)
  exact rs_vret C hH hT hS hF d_Mo_update_69
set_option maxRecDepth 20000 in
theorem JL_Mo_update_305 {p : Program} {l : Launch} {e : Env} {s : State} {m : MethodId} {args : Array Value} {below : List Frame} {meth : Method} {c : Code} {G : rs_G} {Bm : Nat} {S : rs_Shp} {Q : rs_Mem → Prop} (C : rs_C "RouteSpeakerModel" prog_12_method_32_code 9 none G p s m meth c args) : ∀ n : Nat, ∀ (v0 : Nat) (x1 : Int32) (x3 : Int32) (x8 : Int32) (σ : rs_Mem) (H : Heap) (locs : List Loc) (ls : Array Slot), rs_Ok S 11 v0 → rs_H G Bm S σ H → rs_T S σ → va_S (rs_A Bm) s.heap H locs → lv_has ls 9 [(0, .ref (Bm + v0)), (1, .int x1), (3, .int x3), (8, .int x8)] → (L_Mo_update_305 S.2.2 Q n) v0 x1 x3 x8 σ → W p l e { frames := 3, cells := 0, slots := 0, locals := 71 } s m args below meth c H locs 0 0 (MQ below (rs_Qv G Bm S Q) args s 0 0 (rs_A Bm)) (F0 m 305 ls []) := by
  have hx := C.1
  have hb := C.2.1
  intro n
  induction n with
  | zero => intros; rename_i hF; exact hF.elim
  | succ n hK305 =>
    intro v0 x1 x3 x8 σ H locs ls h_v0 hH hT hS hl hF
    replace hF : G_Mo_update_305 S.2.2 Q (L_Mo_update_305 S.2.2 Q n) v0 x1 x3 x8 σ := hF
    unfold G_Mo_update_305 at hF
    refine lv_iload hx hb d_Mo_update_305 (lv_at hl 3 rfl) ?_
    refine lv_iload_n hx hb d_Mo_update_307 rfl (lv_at hl 2 rfl) ?_
    refine lv_icmp_ge hx hb d_Mo_update_308 (tgt := 338) rfl (fun hc => ?_) (fun hc => ?_)
    · replace hF := hF.1 hc
      exact rs_vret C hH hT hS hF d_Mo_update_338
    · replace hF := hF.2 hc
      refine lv_aload_n hx hb d_Mo_update_311 rfl (lv_at hl 0 rfl) ?_
      refine lv_iload_n hx hb d_Mo_update_312 rfl (lv_at hl 1 rfl) ?_
      refine lv_aload_n hx hb d_Mo_update_313 rfl (lv_at hl 0 rfl) ?_
      refine rs_getR C hH hT h_v0 fk_11_15 tw_914 d_Mo_update_314 (fun h51 => ?_)
      refine lv_iload hx hb d_Mo_update_317 (lv_at hl 3 rfl) ?_
      obtain ⟨g52, hF⟩ := hF
      refine rs_iald C hH h51 g52 d_Mo_update_319 ?_
      refine lv_aload_n hx hb d_Mo_update_320 rfl (lv_at hl 0 rfl) ?_
      refine rs_getR C hH hT h_v0 fk_11_15 tw_914 d_Mo_update_321 (fun h53 => ?_)
      refine lv_iload hx hb d_Mo_update_324 (lv_at hl 3 rfl) ?_
      refine lv_iconst hx hb d_Mo_update_326 ki_1 ?_
      refine lv_iadd hx hb d_Mo_update_327 ?_
      obtain ⟨g54, hF⟩ := hF
      refine rs_iald C hH h53 g54 d_Mo_update_328 ?_
      refine rs_cv (rs_runV C hH hT hl (J_Mo_announce l h_v0 hF) rc_Mo_announce tw_1233 tw_1235 ts_71 h_v0 ⟨rfl, by decide, by decide⟩ rfl ⟨⟨rfl, rfl⟩, by decide, by decide, by decide⟩ (Nat.le_of_ble_eq_true rfl) rfl d_Mo_update_329) hS (fun σ55 H locs hH hT hS hF => ?_)
      obtain ⟨x56, ex56⟩ : ∃ z : Int32, z = x8 + (2 : Int32) := ⟨_, rfl⟩
      replace hF := hF x56 ex56
      refine lv_iinc hx hb d_Mo_update_332 hl (k := 3) rfl (v := x56) (by rw [ki_2, ex56]) (by decide) (lv' := [(8, .int x56), (0, .ref (Bm + v0)), (1, .int x1), (3, .int x3)]) rfl (fun ls hl => ?_)
      refine lv_goto hx hb d_Mo_update_335 (tgt := 305) rfl ?_
      exact hK305 v0 x1 x3 x56 σ55 _ _ _ h_v0 hH hT hS (lv_sub hl [1, 2, 3, 0] rfl) hF
set_option maxRecDepth 20000 in
theorem JL_Mo_update_267 {p : Program} {l : Launch} {e : Env} {s : State} {m : MethodId} {args : Array Value} {below : List Frame} {meth : Method} {c : Code} {G : rs_G} {Bm : Nat} {S : rs_Shp} {Q : rs_Mem → Prop} (C : rs_C "RouteSpeakerModel" prog_12_method_32_code 9 none G p s m meth c args) : ∀ n : Nat, ∀ (v0 : Nat) (x1 : Int32) (x3 : Int32) (x5 : Int32) (x6 : Int32) (x8 : Int32) (σ : rs_Mem) (H : Heap) (locs : List Loc) (ls : Array Slot), rs_Ok S 11 v0 → rs_H G Bm S σ H → rs_T S σ → va_S (rs_A Bm) s.heap H locs → lv_has ls 9 [(0, .ref (Bm + v0)), (1, .int x1), (3, .int x3), (5, .int x5), (6, .int x6), (8, .int x8)] → (L_Mo_update_267 S.2.2 Q n) v0 x1 x3 x5 x6 x8 σ → W p l e { frames := 3, cells := 0, slots := 0, locals := 71 } s m args below meth c H locs 0 0 (MQ below (rs_Qv G Bm S Q) args s 0 0 (rs_A Bm)) (F0 m 267 ls []) := by
  have hx := C.1
  have hb := C.2.1
  intro n
  induction n with
  | zero => intros; rename_i hF; exact hF.elim
  | succ n hK267 =>
    intro v0 x1 x3 x5 x6 x8 σ H locs ls h_v0 hH hT hS hl hF
    replace hF : G_Mo_update_267 S.2.2 Q (L_Mo_update_267 S.2.2 Q n) v0 x1 x3 x5 x6 x8 σ := hF
    unfold G_Mo_update_267 at hF
    refine lv_iload hx hb d_Mo_update_267 (lv_at hl 5 rfl) ?_
    refine lv_iload hx hb d_Mo_update_269 (lv_at hl 3 rfl) ?_
    refine lv_icmp_ge hx hb d_Mo_update_271 (tgt := 301) rfl (fun hc => ?_) (fun hc => ?_)
    · replace hF := hF.1 hc
      refine lv_iload hx hb d_Mo_update_301 (lv_at hl 4 rfl) ?_
      refine lv_istore hx hb d_Mo_update_303 hl (by decide) (lv' := [(8, .int x6), (0, .ref (Bm + v0)), (1, .int x1), (3, .int x3), (5, .int x5), (6, .int x6)]) rfl (fun ls hl => ?_)
      obtain ⟨n, hF⟩ := hF
      exact JL_Mo_update_305 C n v0 x1 x3 x6 σ _ _ _ h_v0 hH hT hS (lv_sub hl [1, 2, 3, 0] rfl) hF
    · replace hF := hF.2 hc
      refine lv_aload_n hx hb d_Mo_update_274 rfl (lv_at hl 0 rfl) ?_
      refine lv_iload_n hx hb d_Mo_update_275 rfl (lv_at hl 1 rfl) ?_
      refine lv_aload_n hx hb d_Mo_update_276 rfl (lv_at hl 0 rfl) ?_
      refine rs_getR C hH hT h_v0 fk_11_15 tw_914 d_Mo_update_277 (fun h51 => ?_)
      refine lv_iload hx hb d_Mo_update_280 (lv_at hl 5 rfl) ?_
      obtain ⟨g52, hF⟩ := hF
      refine rs_iald C hH h51 g52 d_Mo_update_282 ?_
      refine lv_aload_n hx hb d_Mo_update_283 rfl (lv_at hl 0 rfl) ?_
      refine rs_getR C hH hT h_v0 fk_11_15 tw_914 d_Mo_update_284 (fun h53 => ?_)
      refine lv_iload hx hb d_Mo_update_287 (lv_at hl 5 rfl) ?_
      refine lv_iconst hx hb d_Mo_update_289 ki_1 ?_
      refine lv_iadd hx hb d_Mo_update_290 ?_
      obtain ⟨g54, hF⟩ := hF
      refine rs_iald C hH h53 g54 d_Mo_update_291 ?_
      refine rs_cv (rs_runV C hH hT hl (J_Mo_withdraw l h_v0 hF) rc_Mo_withdraw tw_1223 tw_1225 ts_69 h_v0 ⟨rfl, by decide, by decide⟩ rfl ⟨⟨rfl, rfl⟩, by decide, by decide, by decide⟩ (Nat.le_of_ble_eq_true rfl) rfl d_Mo_update_292) hS (fun σ55 H locs hH hT hS hF => ?_)
      obtain ⟨x56, ex56⟩ : ∃ z : Int32, z = x8 + (2 : Int32) := ⟨_, rfl⟩
      replace hF := hF x56 ex56
      refine lv_iinc hx hb d_Mo_update_295 hl (k := 5) rfl (v := x56) (by rw [ki_2, ex56]) (by decide) (lv' := [(8, .int x56), (0, .ref (Bm + v0)), (1, .int x1), (3, .int x3), (5, .int x5), (6, .int x6)]) rfl (fun ls hl => ?_)
      refine lv_goto hx hb d_Mo_update_298 (tgt := 267) rfl ?_
      exact hK267 v0 x1 x3 x5 x6 x56 σ55 _ _ _ h_v0 hH hT hS (lv_sub hl [1, 2, 3, 4, 5, 0] rfl) hF
set_option maxRecDepth 20000 in
theorem JB_Mo_update_218 {p : Program} {l : Launch} {e : Env} {s : State} {m : MethodId} {args : Array Value} {below : List Frame} {meth : Method} {c : Code} {G : rs_G} {Bm : Nat} {S : rs_Shp} {Q : rs_Mem → Prop} (C : rs_C "RouteSpeakerModel" prog_12_method_32_code 9 none G p s m meth c args) (v0 : Nat) (x1 : Int32) (x2 : Int32) (x3 : Int32) (x5 : Int32) (x6 : Int32) (x7 : Int32) (σ : rs_Mem) (H : Heap) (locs : List Loc) (ls : Array Slot) (h_v0 : rs_Ok S 11 v0) (hH : rs_H G Bm S σ H) (hT : rs_T S σ) (hS : va_S (rs_A Bm) s.heap H locs) (hl : lv_has ls 9 [(0, .ref (Bm + v0)), (1, .int x1), (2, .int x2), (3, .int x3), (5, .int x5), (6, .int x6), (7, .int x7)]) (hF : B_Mo_update_218 S.2.2 Q v0 x1 x2 x3 x5 x6 x7 σ) :
    W p l e { frames := 3, cells := 0, slots := 0, locals := 71 } s m args below meth c H locs 0 0 (MQ below (rs_Qv G Bm S Q) args s 0 0 (rs_A Bm)) (F0 m 218 ls []) := by
  have hx := C.1
  have hb := C.2.1
  unfold B_Mo_update_218 at hF
  refine lv_iload hx hb d_Mo_update_218 (lv_at hl 6 rfl) ?_
  refine lv_if_le hx hb d_Mo_update_220 (tgt := 234) rfl (fun hc => ?_) (fun hc => ?_)
  · replace hF := hF.1 hc
    refine lv_aload_n hx hb d_Mo_update_234 rfl (lv_at hl 0 rfl) ?_
    refine rs_getI C hH h_v0 fk_11_21 tw_920 d_Mo_update_235 ?_
    refine lv_aload_n hx hb d_Mo_update_238 rfl (lv_at hl 0 rfl) ?_
    refine lv_iload hx hb d_Mo_update_239 (lv_at hl 5 rfl) ?_
    refine lv_iload_n hx hb d_Mo_update_241 rfl (lv_at hl 3 rfl) ?_
    refine rs_ci (rs_runV C hH hT hl (J_Mo_fresh l h_v0 hF) rc_Mo_fresh tw_1219 tw_1221 ts_68 h_v0 ⟨rfl, by decide, by decide⟩ rfl ⟨⟨rfl, rfl⟩, by decide, by decide, by decide⟩ (Nat.le_of_ble_eq_true rfl) rfl d_Mo_update_242) hS (fun x52 σ51 H locs hH hT hS hF => ?_)
    refine lv_iadd hx hb d_Mo_update_245 ?_
    refine lv_bipush hx hb d_Mo_update_246 kb_12 ?_
    refine lv_icmp_le hx hb d_Mo_update_248 (tgt := 262) rfl (fun hc => ?_) (fun hc => ?_)
    · replace hF := hF.1 hc
      refine lv_iload_n hx hb d_Mo_update_262 rfl (lv_at hl 2 rfl) ?_
      refine lv_iconst hx hb d_Mo_update_263 ki_3 ?_
      refine lv_iadd hx hb d_Mo_update_264 ?_
      refine lv_topi (fun x53 ex53 => ?_)
      replace hF := hF x53 ex53
      refine lv_istore hx hb d_Mo_update_265 hl (by decide) (lv' := [(8, .int x53), (0, .ref (Bm + v0)), (1, .int x1), (2, .int x2), (3, .int x3), (5, .int x5), (6, .int x6), (7, .int x7)]) rfl (fun ls hl => ?_)
      obtain ⟨n, hF⟩ := hF
      exact JL_Mo_update_267 C n v0 x1 x3 x5 x6 x53 σ51 _ _ _ h_v0 hH hT hS (lv_sub hl [1, 2, 4, 5, 6, 0] rfl) hF
    · replace hF := hF.2 hc
      refine lv_aload_n hx hb d_Mo_update_251 rfl (lv_at hl 0 rfl) ?_
      refine lv_iload_n hx hb d_Mo_update_252 rfl (lv_at hl 1 rfl) ?_
      refine lv_bipush hx hb d_Mo_update_253 kb_6 ?_
      refine lv_iconst hx hb d_Mo_update_255 ki_1 ?_
      refine rs_cv (rs_runV C hH hT hl (J_Mo_end l h_v0 hF) rc_Mo_end tw_1171 tw_1173 ts_58 h_v0 ⟨rfl, by decide, by decide⟩ rfl ⟨⟨rfl, rfl⟩, by decide, by decide, by decide⟩ (Nat.le_of_ble_eq_true rfl) rfl d_Mo_update_256) hS (fun σ53 H locs hH hT hS hF => ?_)
      refine lv_goto hx hb d_Mo_update_259 (tgt := 338) rfl ?_
      exact rs_vret C hH hT hS hF d_Mo_update_338
  · replace hF := hF.2 hc
    refine lv_aload_n hx hb d_Mo_update_223 rfl (lv_at hl 0 rfl) ?_
    refine lv_iload_n hx hb d_Mo_update_224 rfl (lv_at hl 1 rfl) ?_
    refine lv_iconst hx hb d_Mo_update_225 ki_3 ?_
    refine lv_iload hx hb d_Mo_update_226 (lv_at hl 6 rfl) ?_
    refine rs_cv (rs_runV C hH hT hl (J_Mo_end l h_v0 hF) rc_Mo_end tw_1171 tw_1173 ts_58 h_v0 ⟨rfl, by decide, by decide⟩ rfl ⟨⟨rfl, rfl⟩, by decide, by decide, by decide⟩ (Nat.le_of_ble_eq_true rfl) rfl d_Mo_update_228) hS (fun σ51 H locs hH hT hS hF => ?_)
    refine lv_goto hx hb d_Mo_update_231 (tgt := 338) rfl ?_
    exact rs_vret C hH hT hS hF d_Mo_update_338
set_option maxRecDepth 20000 in
theorem JL_Mo_update_171 {p : Program} {l : Launch} {e : Env} {s : State} {m : MethodId} {args : Array Value} {below : List Frame} {meth : Method} {c : Code} {G : rs_G} {Bm : Nat} {S : rs_Shp} {Q : rs_Mem → Prop} (C : rs_C "RouteSpeakerModel" prog_12_method_32_code 9 none G p s m meth c args) : ∀ n : Nat, ∀ (v0 : Nat) (x1 : Int32) (x2 : Int32) (x3 : Int32) (x5 : Int32) (x6 : Int32) (x7 : Int32) (x8 : Int32) (σ : rs_Mem) (H : Heap) (locs : List Loc) (ls : Array Slot), rs_Ok S 11 v0 → rs_H G Bm S σ H → rs_T S σ → va_S (rs_A Bm) s.heap H locs → lv_has ls 9 [(0, .ref (Bm + v0)), (1, .int x1), (2, .int x2), (3, .int x3), (5, .int x5), (6, .int x6), (7, .int x7), (8, .int x8)] → (L_Mo_update_171 S.2.2 Q n) v0 x1 x2 x3 x5 x6 x7 x8 σ → W p l e { frames := 3, cells := 0, slots := 0, locals := 71 } s m args below meth c H locs 0 0 (MQ below (rs_Qv G Bm S Q) args s 0 0 (rs_A Bm)) (F0 m 171 ls []) := by
  have hx := C.1
  have hb := C.2.1
  intro n
  induction n with
  | zero => intros; rename_i hF; exact hF.elim
  | succ n hK171 =>
    intro v0 x1 x2 x3 x5 x6 x7 x8 σ H locs ls h_v0 hH hT hS hl hF
    replace hF : G_Mo_update_171 S.2.2 Q (L_Mo_update_171 S.2.2 Q n) v0 x1 x2 x3 x5 x6 x7 x8 σ := hF
    unfold G_Mo_update_171 at hF
    refine lv_iload hx hb d_Mo_update_171 (lv_at hl 7 rfl) ?_
    refine lv_iload_n hx hb d_Mo_update_173 rfl (lv_at hl 3 rfl) ?_
    refine lv_icmp_ge hx hb d_Mo_update_174 (tgt := 218) rfl (fun hc => ?_) (fun hc => ?_)
    · replace hF := hF.1 hc
      exact JB_Mo_update_218 C v0 x1 x2 x3 x5 x6 x7 σ _ _ _ h_v0 hH hT hS (lv_sub hl [0, 1, 2, 3, 4, 5, 6] rfl) hF
    · replace hF := hF.2 hc
      refine lv_iload hx hb d_Mo_update_177 (lv_at hl 6 rfl) ?_
      refine lv_if_ne hx hb d_Mo_update_179 (tgt := 218) rfl (fun hc => ?_) (fun hc => ?_)
      · replace hF := hF.1 hc
        exact JB_Mo_update_218 C v0 x1 x2 x3 x5 x6 x7 σ _ _ _ h_v0 hH hT hS (lv_sub hl [0, 1, 2, 3, 4, 5, 6] rfl) hF
      · replace hF := hF.2 hc
        refine lv_aload_n hx hb d_Mo_update_182 rfl (lv_at hl 0 rfl) ?_
        refine rs_getR C hH hT h_v0 fk_11_15 tw_914 d_Mo_update_183 (fun h51 => ?_)
        refine lv_iload hx hb d_Mo_update_186 (lv_at hl 7 rfl) ?_
        obtain ⟨g52, hF⟩ := hF
        refine rs_iald C hH h51 g52 d_Mo_update_188 ?_
        refine lv_aload_n hx hb d_Mo_update_189 rfl (lv_at hl 0 rfl) ?_
        refine rs_getR C hH hT h_v0 fk_11_15 tw_914 d_Mo_update_190 (fun h53 => ?_)
        refine lv_iload hx hb d_Mo_update_193 (lv_at hl 7 rfl) ?_
        refine lv_iconst hx hb d_Mo_update_195 ki_1 ?_
        refine lv_iadd hx hb d_Mo_update_196 ?_
        obtain ⟨g54, hF⟩ := hF
        refine rs_iald C hH h53 g54 d_Mo_update_197 ?_
        refine rs_ci (rs_runS C hH hT hl (J_Mo_isPrefix l hF) rc_Mo_isPrefix tw_1136 tw_1137 rfl ⟨⟨rfl, rfl⟩, by decide, by decide, by decide⟩ (Nat.le_of_ble_eq_true rfl) rfl d_Mo_update_198) hS (fun x56 σ55 H locs hH hT hS hF => ?_)
        refine lv_if_eq hx hb d_Mo_update_201 (tgt := 208) rfl (fun hc => ?_) (fun hc => ?_)
        · replace hF := hF.1 hc
          refine lv_bipush hx hb d_Mo_update_208 kb_10 ?_
          refine lv_istore hx hb d_Mo_update_210 hl (by decide) (lv' := [(7, .int (10 : Int32)), (0, .ref (Bm + v0)), (1, .int x1), (2, .int x2), (3, .int x3), (5, .int x5), (6, .int x6), (8, .int x8)]) rfl (fun ls hl => ?_)
          obtain ⟨x57, ex57⟩ : ∃ z : Int32, z = x8 + (2 : Int32) := ⟨_, rfl⟩
          replace hF := hF x57 ex57
          refine lv_iinc hx hb d_Mo_update_212 hl (k := 7) rfl (v := x57) (by rw [ki_2, ex57]) (by decide) (lv' := [(8, .int x57), (7, .int (10 : Int32)), (0, .ref (Bm + v0)), (1, .int x1), (2, .int x2), (3, .int x3), (5, .int x5), (6, .int x6)]) rfl (fun ls hl => ?_)
          refine lv_goto hx hb d_Mo_update_215 (tgt := 171) rfl ?_
          exact hK171 v0 x1 x2 x3 x5 x6 (10 : Int32) x57 σ55 _ _ _ h_v0 hH hT hS (lv_sub hl [2, 3, 4, 5, 6, 7, 1, 0] rfl) hF
        · replace hF := hF.2 hc
          refine lv_iconst hx hb d_Mo_update_204 ki_0 ?_
          refine lv_goto hx hb d_Mo_update_205 (tgt := 210) rfl ?_
          refine lv_istore hx hb d_Mo_update_210 hl (by decide) (lv' := [(7, .int (0 : Int32)), (0, .ref (Bm + v0)), (1, .int x1), (2, .int x2), (3, .int x3), (5, .int x5), (6, .int x6), (8, .int x8)]) rfl (fun ls hl => ?_)
          obtain ⟨x57, ex57⟩ : ∃ z : Int32, z = x8 + (2 : Int32) := ⟨_, rfl⟩
          replace hF := hF x57 ex57
          refine lv_iinc hx hb d_Mo_update_212 hl (k := 7) rfl (v := x57) (by rw [ki_2, ex57]) (by decide) (lv' := [(8, .int x57), (7, .int (0 : Int32)), (0, .ref (Bm + v0)), (1, .int x1), (2, .int x2), (3, .int x3), (5, .int x5), (6, .int x6)]) rfl (fun ls hl => ?_)
          refine lv_goto hx hb d_Mo_update_215 (tgt := 171) rfl ?_
          exact hK171 v0 x1 x2 x3 x5 x6 (0 : Int32) x57 σ55 _ _ _ h_v0 hH hT hS (lv_sub hl [2, 3, 4, 5, 6, 7, 1, 0] rfl) hF
set_option maxRecDepth 20000 in
theorem JL_Mo_update_119 {p : Program} {l : Launch} {e : Env} {s : State} {m : MethodId} {args : Array Value} {below : List Frame} {meth : Method} {c : Code} {G : rs_G} {Bm : Nat} {S : rs_Shp} {Q : rs_Mem → Prop} (C : rs_C "RouteSpeakerModel" prog_12_method_32_code 9 none G p s m meth c args) : ∀ n : Nat, ∀ (v0 : Nat) (x1 : Int32) (x2 : Int32) (x3 : Int32) (x5 : Int32) (x6 : Int32) (x7 : Int32) (x8 : Int32) (σ : rs_Mem) (H : Heap) (locs : List Loc) (ls : Array Slot), rs_Ok S 11 v0 → rs_H G Bm S σ H → rs_T S σ → va_S (rs_A Bm) s.heap H locs → lv_has ls 9 [(0, .ref (Bm + v0)), (1, .int x1), (2, .int x2), (3, .int x3), (5, .int x5), (6, .int x6), (7, .int x7), (8, .int x8)] → (L_Mo_update_119 S.2.2 Q n) v0 x1 x2 x3 x5 x6 x7 x8 σ → W p l e { frames := 3, cells := 0, slots := 0, locals := 71 } s m args below meth c H locs 0 0 (MQ below (rs_Qv G Bm S Q) args s 0 0 (rs_A Bm)) (F0 m 119 ls []) := by
  have hx := C.1
  have hb := C.2.1
  intro n
  induction n with
  | zero => intros; rename_i hF; exact hF.elim
  | succ n hK119 =>
    intro v0 x1 x2 x3 x5 x6 x7 x8 σ H locs ls h_v0 hH hT hS hl hF
    replace hF : G_Mo_update_119 S.2.2 Q (L_Mo_update_119 S.2.2 Q n) v0 x1 x2 x3 x5 x6 x7 x8 σ := hF
    unfold G_Mo_update_119 at hF
    refine lv_iload hx hb d_Mo_update_119 (lv_at hl 7 rfl) ?_
    refine lv_iload hx hb d_Mo_update_121 (lv_at hl 4 rfl) ?_
    refine lv_icmp_ge hx hb d_Mo_update_123 (tgt := 167) rfl (fun hc => ?_) (fun hc => ?_)
    · replace hF := hF.1 hc
      refine lv_iload hx hb d_Mo_update_167 (lv_at hl 5 rfl) ?_
      refine lv_istore hx hb d_Mo_update_169 hl (by decide) (lv' := [(8, .int x6), (0, .ref (Bm + v0)), (1, .int x1), (2, .int x2), (3, .int x3), (5, .int x5), (6, .int x6), (7, .int x7)]) rfl (fun ls hl => ?_)
      obtain ⟨n, hF⟩ := hF
      exact JL_Mo_update_171 C n v0 x1 x2 x3 x5 x6 x7 x6 σ _ _ _ h_v0 hH hT hS (lv_sub hl [1, 2, 3, 4, 5, 6, 7, 0] rfl) hF
    · replace hF := hF.2 hc
      refine lv_iload hx hb d_Mo_update_126 (lv_at hl 6 rfl) ?_
      refine lv_if_ne hx hb d_Mo_update_128 (tgt := 167) rfl (fun hc => ?_) (fun hc => ?_)
      · replace hF := hF.1 hc
        refine lv_iload hx hb d_Mo_update_167 (lv_at hl 5 rfl) ?_
        refine lv_istore hx hb d_Mo_update_169 hl (by decide) (lv' := [(8, .int x6), (0, .ref (Bm + v0)), (1, .int x1), (2, .int x2), (3, .int x3), (5, .int x5), (6, .int x6), (7, .int x7)]) rfl (fun ls hl => ?_)
        obtain ⟨n, hF⟩ := hF
        exact JL_Mo_update_171 C n v0 x1 x2 x3 x5 x6 x7 x6 σ _ _ _ h_v0 hH hT hS (lv_sub hl [1, 2, 3, 4, 5, 6, 7, 0] rfl) hF
      · replace hF := hF.2 hc
        refine lv_aload_n hx hb d_Mo_update_131 rfl (lv_at hl 0 rfl) ?_
        refine rs_getR C hH hT h_v0 fk_11_15 tw_914 d_Mo_update_132 (fun h51 => ?_)
        refine lv_iload hx hb d_Mo_update_135 (lv_at hl 7 rfl) ?_
        obtain ⟨g52, hF⟩ := hF
        refine rs_iald C hH h51 g52 d_Mo_update_137 ?_
        refine lv_aload_n hx hb d_Mo_update_138 rfl (lv_at hl 0 rfl) ?_
        refine rs_getR C hH hT h_v0 fk_11_15 tw_914 d_Mo_update_139 (fun h53 => ?_)
        refine lv_iload hx hb d_Mo_update_142 (lv_at hl 7 rfl) ?_
        refine lv_iconst hx hb d_Mo_update_144 ki_1 ?_
        refine lv_iadd hx hb d_Mo_update_145 ?_
        obtain ⟨g54, hF⟩ := hF
        refine rs_iald C hH h53 g54 d_Mo_update_146 ?_
        refine rs_ci (rs_runS C hH hT hl (J_Mo_isPrefix l hF) rc_Mo_isPrefix tw_1136 tw_1137 rfl ⟨⟨rfl, rfl⟩, by decide, by decide, by decide⟩ (Nat.le_of_ble_eq_true rfl) rfl d_Mo_update_147) hS (fun x56 σ55 H locs hH hT hS hF => ?_)
        refine lv_if_eq hx hb d_Mo_update_150 (tgt := 157) rfl (fun hc => ?_) (fun hc => ?_)
        · replace hF := hF.1 hc
          refine lv_bipush hx hb d_Mo_update_157 kb_10 ?_
          refine lv_istore hx hb d_Mo_update_159 hl (by decide) (lv' := [(7, .int (10 : Int32)), (0, .ref (Bm + v0)), (1, .int x1), (2, .int x2), (3, .int x3), (5, .int x5), (6, .int x6), (8, .int x8)]) rfl (fun ls hl => ?_)
          obtain ⟨x57, ex57⟩ : ∃ z : Int32, z = x8 + (2 : Int32) := ⟨_, rfl⟩
          replace hF := hF x57 ex57
          refine lv_iinc hx hb d_Mo_update_161 hl (k := 7) rfl (v := x57) (by rw [ki_2, ex57]) (by decide) (lv' := [(8, .int x57), (7, .int (10 : Int32)), (0, .ref (Bm + v0)), (1, .int x1), (2, .int x2), (3, .int x3), (5, .int x5), (6, .int x6)]) rfl (fun ls hl => ?_)
          refine lv_goto hx hb d_Mo_update_164 (tgt := 119) rfl ?_
          exact hK119 v0 x1 x2 x3 x5 x6 (10 : Int32) x57 σ55 _ _ _ h_v0 hH hT hS (lv_sub hl [2, 3, 4, 5, 6, 7, 1, 0] rfl) hF
        · replace hF := hF.2 hc
          refine lv_iconst hx hb d_Mo_update_153 ki_0 ?_
          refine lv_goto hx hb d_Mo_update_154 (tgt := 159) rfl ?_
          refine lv_istore hx hb d_Mo_update_159 hl (by decide) (lv' := [(7, .int (0 : Int32)), (0, .ref (Bm + v0)), (1, .int x1), (2, .int x2), (3, .int x3), (5, .int x5), (6, .int x6), (8, .int x8)]) rfl (fun ls hl => ?_)
          obtain ⟨x57, ex57⟩ : ∃ z : Int32, z = x8 + (2 : Int32) := ⟨_, rfl⟩
          replace hF := hF x57 ex57
          refine lv_iinc hx hb d_Mo_update_161 hl (k := 7) rfl (v := x57) (by rw [ki_2, ex57]) (by decide) (lv' := [(8, .int x57), (7, .int (0 : Int32)), (0, .ref (Bm + v0)), (1, .int x1), (2, .int x2), (3, .int x3), (5, .int x5), (6, .int x6)]) rfl (fun ls hl => ?_)
          refine lv_goto hx hb d_Mo_update_164 (tgt := 119) rfl ?_
          exact hK119 v0 x1 x2 x3 x5 x6 (0 : Int32) x57 σ55 _ _ _ h_v0 hH hT hS (lv_sub hl [2, 3, 4, 5, 6, 7, 1, 0] rfl) hF
set_option maxRecDepth 20000 in
theorem JB_Mo_update_114 {p : Program} {l : Launch} {e : Env} {s : State} {m : MethodId} {args : Array Value} {below : List Frame} {meth : Method} {c : Code} {G : rs_G} {Bm : Nat} {S : rs_Shp} {Q : rs_Mem → Prop} (C : rs_C "RouteSpeakerModel" prog_12_method_32_code 9 none G p s m meth c args) (v0 : Nat) (x1 : Int32) (x2 : Int32) (x3 : Int32) (x5 : Int32) (x6 : Int32) (x7 : Int32) (σ : rs_Mem) (H : Heap) (locs : List Loc) (ls : Array Slot) (h_v0 : rs_Ok S 11 v0) (hH : rs_H G Bm S σ H) (hT : rs_T S σ) (hS : va_S (rs_A Bm) s.heap H locs) (hl : lv_has ls 9 [(0, .ref (Bm + v0)), (1, .int x1), (2, .int x2), (3, .int x3), (5, .int x5), (6, .int x6), (7, .int x7)]) (hF : B_Mo_update_114 S.2.2 Q v0 x1 x2 x3 x5 x6 x7 σ) :
    W p l e { frames := 3, cells := 0, slots := 0, locals := 71 } s m args below meth c H locs 0 0 (MQ below (rs_Qv G Bm S Q) args s 0 0 (rs_A Bm)) (F0 m 114 ls []) := by
  have hx := C.1
  have hb := C.2.1
  unfold B_Mo_update_114 at hF
  refine lv_iload_n hx hb d_Mo_update_114 rfl (lv_at hl 2 rfl) ?_
  refine lv_iconst hx hb d_Mo_update_115 ki_3 ?_
  refine lv_iadd hx hb d_Mo_update_116 ?_
  refine lv_topi (fun x51 ex51 => ?_)
  replace hF := hF x51 ex51
  refine lv_istore hx hb d_Mo_update_117 hl (by decide) (lv' := [(8, .int x51), (0, .ref (Bm + v0)), (1, .int x1), (2, .int x2), (3, .int x3), (5, .int x5), (6, .int x6), (7, .int x7)]) rfl (fun ls hl => ?_)
  obtain ⟨n, hF⟩ := hF
  exact JL_Mo_update_119 C n v0 x1 x2 x3 x5 x6 x7 x51 σ _ _ _ h_v0 hH hT hS (lv_sub hl [1, 2, 3, 4, 5, 6, 7, 0] rfl) hF
abbrev y_Mo_update : MethodName := ({ cls := "RouteSpeakerModel", name := "update", desc := "(III)V" } : Jvm.MethodName)
theorem rc_Mo_update : rs_Cal y_Mo_update prog_12_method_32_code 9 none 3 := ⟨tw_1203, tw_11, by decide, by decide, by decide +kernel⟩
set_option maxRecDepth 20000 in
theorem J_Mo_update (l : Launch) {G : rs_G} {Bm : Nat} {S : rs_Shp} {v0 : Nat} {x1 : Int32} {x2 : Int32} {x3 : Int32} {σ : rs_Mem} {Q : rs_Mem → Prop} (h_v0 : rs_Ok S 11 v0) (hF : F_Mo_update S.2.2 v0 x1 x2 x3 σ Q) :
    Met l y_Mo_update (rs_ws y_Mo_update prog_12_method_32_code 9 none) { frames := 3, cells := 0, slots := 0, locals := 71 } (rs_P G Bm S σ [.ref (Bm + v0), .int x1, .int x2, .int x3]) (rs_Qv G Bm S Q) 0 0 (rs_A Bm) := by
  refine rs_met (own := "RouteSpeakerModel") (by decide) rfl (Nat.le_of_ble_eq_true rfl) (fun p e s m below meth c ls C hl hH hT hS => ?_)
  replace hl : lv_has ls 9 [(0, .ref (Bm + v0)), (1, .int x1), (2, .int x2), (3, .int x3)] := hl
  have hx := C.1
  have hb := C.2.1
  unfold F_Mo_update at hF
  refine lv_aload_n hx hb d_Mo_update_0 rfl (lv_at hl 0 rfl) ?_
  refine rs_getR C hH hT h_v0 fk_11_15 tw_914 d_Mo_update_1 (fun h51 => ?_)
  refine lv_iload_n hx hb d_Mo_update_4 rfl (lv_at hl 2 rfl) ?_
  refine lv_iconst hx hb d_Mo_update_5 ki_2 ?_
  refine lv_iadd hx hb d_Mo_update_6 ?_
  obtain ⟨g52, hF⟩ := hF
  refine rs_iald C hH h51 g52 d_Mo_update_7 ?_
  refine lv_topi (fun x53 ex53 => ?_)
  replace hF := hF x53 ex53
  refine lv_istore hx hb d_Mo_update_8 hl (by decide) (lv' := [(4, .int x53), (0, .ref (Bm + v0)), (1, .int x1), (2, .int x2), (3, .int x3)]) rfl (fun ls hl => ?_)
  refine lv_iload_n hx hb d_Mo_update_10 rfl (lv_at hl 3 rfl) ?_
  refine lv_iconst hx hb d_Mo_update_11 ki_3 ?_
  refine lv_iadd hx hb d_Mo_update_12 ?_
  refine lv_iconst hx hb d_Mo_update_13 ki_2 ?_
  refine lv_iload hx hb d_Mo_update_14 (lv_at hl 0 rfl) ?_
  refine lv_imul hx hb d_Mo_update_16 ?_
  refine lv_iadd hx hb d_Mo_update_17 ?_
  refine lv_topi (fun x54 ex54 => ?_)
  replace hF := hF x54 ex54
  refine lv_istore hx hb d_Mo_update_18 hl (by decide) (lv' := [(5, .int x54), (4, .int x53), (0, .ref (Bm + v0)), (1, .int x1), (2, .int x2), (3, .int x3)]) rfl (fun ls hl => ?_)
  refine lv_iload hx hb d_Mo_update_20 (lv_at hl 0 rfl) ?_
  refine lv_iload_n hx hb d_Mo_update_22 rfl (lv_at hl 5 rfl) ?_
  refine lv_icmp_ge hx hb d_Mo_update_23 (tgt := 62) rfl (fun hc => ?_) (fun hc => ?_)
  · replace hF := hF.1 hc
    exact JB_Mo_update_62 C v0 x1 σ _ _ _ h_v0 hH hT hS (lv_sub hl [2, 3] rfl) hF
  · replace hF := hF.2 hc
    refine lv_iload hx hb d_Mo_update_26 (lv_at hl 0 rfl) ?_
    refine lv_iconst hx hb d_Mo_update_28 ki_1 ?_
    refine lv_iadd hx hb d_Mo_update_29 ?_
    refine lv_aload_n hx hb d_Mo_update_30 rfl (lv_at hl 2 rfl) ?_
    refine rs_getR C hH hT h_v0 fk_11_15 tw_914 d_Mo_update_31 (fun h55 => ?_)
    refine lv_iload hx hb d_Mo_update_34 (lv_at hl 0 rfl) ?_
    obtain ⟨g56, hF⟩ := hF
    refine rs_iald C hH h55 g56 d_Mo_update_36 ?_
    refine lv_iadd hx hb d_Mo_update_37 ?_
    refine lv_iload_n hx hb d_Mo_update_38 rfl (lv_at hl 5 rfl) ?_
    refine lv_icmp_gt hx hb d_Mo_update_39 (tgt := 62) rfl (fun hc => ?_) (fun hc => ?_)
    · replace hF := hF.1 hc
      exact JB_Mo_update_62 C v0 x1 σ _ _ _ h_v0 hH hT hS (lv_sub hl [2, 3] rfl) hF
    · replace hF := hF.2 hc
      refine lv_iload_n hx hb d_Mo_update_42 rfl (lv_at hl 5 rfl) ?_
      refine lv_iload hx hb d_Mo_update_43 (lv_at hl 0 rfl) ?_
      refine lv_isub hx hb d_Mo_update_45 ?_
      refine lv_iconst hx hb d_Mo_update_46 ki_1 ?_
      refine lv_isub hx hb d_Mo_update_47 ?_
      refine lv_aload_n hx hb d_Mo_update_48 rfl (lv_at hl 2 rfl) ?_
      refine rs_getR C hH hT h_v0 fk_11_15 tw_914 d_Mo_update_49 (fun h57 => ?_)
      refine lv_iload hx hb d_Mo_update_52 (lv_at hl 0 rfl) ?_
      obtain ⟨g58, hF⟩ := hF
      refine rs_iald C hH h57 g58 d_Mo_update_54 ?_
      refine lv_isub hx hb d_Mo_update_55 ?_
      refine lv_iconst hx hb d_Mo_update_56 ki_2 ?_
      refine lv_irem hx hb d_Mo_update_57 (by decide) ?_
      refine lv_iconst hx hb d_Mo_update_58 ki_1 ?_
      refine lv_icmp_ne hx hb d_Mo_update_59 (tgt := 70) rfl (fun hc => ?_) (fun hc => ?_)
      · replace hF := hF.1 hc
        refine lv_iload hx hb d_Mo_update_70 (lv_at hl 0 rfl) ?_
        refine lv_iconst hx hb d_Mo_update_72 ki_1 ?_
        refine lv_iadd hx hb d_Mo_update_73 ?_
        refine lv_aload_n hx hb d_Mo_update_74 rfl (lv_at hl 2 rfl) ?_
        refine rs_getR C hH hT h_v0 fk_11_15 tw_914 d_Mo_update_75 (fun h59 => ?_)
        refine lv_iload hx hb d_Mo_update_78 (lv_at hl 0 rfl) ?_
        obtain ⟨g60, hF⟩ := hF
        refine rs_iald C hH h59 g60 d_Mo_update_80 ?_
        refine lv_iadd hx hb d_Mo_update_81 ?_
        refine lv_topi (fun x61 ex61 => ?_)
        replace hF := hF x61 ex61
        refine lv_istore hx hb d_Mo_update_82 hl (by decide) (lv' := [(6, .int x61), (5, .int x54), (4, .int x53), (0, .ref (Bm + v0)), (1, .int x1), (2, .int x2), (3, .int x3)]) rfl (fun ls hl => ?_)
        refine lv_aload_n hx hb d_Mo_update_84 rfl (lv_at hl 3 rfl) ?_
        refine lv_iload hx hb d_Mo_update_85 (lv_at hl 1 rfl) ?_
        refine lv_iconst hx hb d_Mo_update_87 ki_1 ?_
        refine lv_iadd hx hb d_Mo_update_88 ?_
        refine lv_iload hx hb d_Mo_update_89 (lv_at hl 0 rfl) ?_
        refine rs_ci (rs_runV C hH hT hl (J_Mo_badAttributes l h_v0 hF) rc_Mo_badAttributes tw_1204 tw_1206 ts_65 h_v0 ⟨rfl, by decide, by decide⟩ rfl ⟨⟨rfl, rfl⟩, by decide, by decide, by decide⟩ (Nat.le_of_ble_eq_true rfl) rfl d_Mo_update_91) hS (fun x63 σ62 H locs hH hT hS hF => ?_)
        refine lv_istore hx hb d_Mo_update_94 hl (by decide) (lv' := [(7, .int x63), (6, .int x61), (5, .int x54), (4, .int x53), (0, .ref (Bm + v0)), (1, .int x1), (2, .int x2), (3, .int x3)]) rfl (fun ls hl => ?_)
        refine lv_iload hx hb d_Mo_update_96 (lv_at hl 0 rfl) ?_
        refine lv_if_ne hx hb d_Mo_update_98 (tgt := 114) rfl (fun hc => ?_) (fun hc => ?_)
        · replace hF := hF.1 hc
          exact JB_Mo_update_114 C v0 x1 x2 x3 x54 x61 x63 σ62 _ _ _ h_v0 hH hT hS (lv_sub hl [4, 5, 6, 7, 2, 1, 0] rfl) hF
        · replace hF := hF.2 hc
          refine lv_iload hx hb d_Mo_update_101 (lv_at hl 1 rfl) ?_
          refine lv_iload_n hx hb d_Mo_update_103 rfl (lv_at hl 7 rfl) ?_
          refine lv_icmp_ge hx hb d_Mo_update_104 (tgt := 114) rfl (fun hc => ?_) (fun hc => ?_)
          · replace hF := hF.1 hc
            exact JB_Mo_update_114 C v0 x1 x2 x3 x54 x61 x63 σ62 _ _ _ h_v0 hH hT hS (lv_sub hl [4, 5, 6, 7, 2, 1, 0] rfl) hF
          · replace hF := hF.2 hc
            refine lv_aload_n hx hb d_Mo_update_107 rfl (lv_at hl 4 rfl) ?_
            refine lv_iload_n hx hb d_Mo_update_108 rfl (lv_at hl 5 rfl) ?_
            refine rs_ci (rs_runV C hH hT hl (J_Mo_badRoute l h_v0 hF) rc_Mo_badRoute tw_1215 tw_1217 ts_67 h_v0 ⟨rfl, by decide, by decide⟩ rfl ⟨⟨rfl, rfl⟩, by decide, by decide, by decide⟩ (Nat.le_of_ble_eq_true rfl) rfl d_Mo_update_109) hS (fun x65 σ64 H locs hH hT hS hF => ?_)
            refine lv_istore hx hb d_Mo_update_112 hl (by decide) (lv' := [(7, .int x65), (6, .int x61), (5, .int x54), (4, .int x53), (0, .ref (Bm + v0)), (1, .int x1), (2, .int x2), (3, .int x3)]) rfl (fun ls hl => ?_)
            exact JB_Mo_update_114 C v0 x1 x2 x3 x54 x61 x65 σ64 _ _ _ h_v0 hH hT hS (lv_sub hl [4, 5, 6, 7, 2, 1, 0] rfl) hF
      · replace hF := hF.2 hc
        exact JB_Mo_update_62 C v0 x1 σ _ _ _ h_v0 hH hT hS (lv_sub hl [2, 3] rfl) hF
