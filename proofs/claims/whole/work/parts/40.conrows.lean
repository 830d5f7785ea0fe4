/-! closed forms: shapes and memories with the number of cells written out -/
def rs_ad (b : Nat) (S : rs_Shp) (kd n : Nat) : rs_Shp := (b + 1, fun v => if v = b + 1 then kd else S.2.1 v, fun v => if v = b + 1 then n else S.2.2 v)
def rs_adm (b : Nat) (S : rs_Shp) (N K : Nat) : rs_Shp := (b + 1 + N, fun v => if v = b + 1 then 26 else if b + 1 < v ∧ v ≤ b + 1 + N then 20 else S.2.1 v, fun v => if v = b + 1 then N else if b + 1 < v ∧ v ≤ b + 1 + N then K else S.2.2 v)
theorem rs_ad_of {S S1 : rs_Shp} {b kd n : Nat} (h : S1 = rs_add S kd n) (hb : S.1 = b) : S1 = rs_ad b S kd n := by subst h; subst hb; rfl
theorem rs_adm_of {S S1 : rs_Shp} {b N K : Nat} (h : S1 = rs_addm S N K) (hb : S.1 = b) : S1 = rs_adm b S N K := by subst h; subst hb; rfl
theorem rs_ad_k {b kd n v : Nat} {S : rs_Shp} (h : v ≤ b) : (rs_ad b S kd n).2.1 v = S.2.1 v := if_neg (by omega)
theorem rs_ad_l {b kd n v : Nat} {S : rs_Shp} (h : v ≤ b) : (rs_ad b S kd n).2.2 v = S.2.2 v := if_neg (by omega)
theorem rs_adm_k {b N K v : Nat} {S : rs_Shp} (h : v ≤ b) : (rs_adm b S N K).2.1 v = S.2.1 v := by
  show (if v = b + 1 then 26 else if b + 1 < v ∧ v ≤ b + 1 + N then 20 else S.2.1 v) = _
  rw [if_neg (by omega), if_neg (by omega)]
theorem rs_adm_l {b N K v : Nat} {S : rs_Shp} (h : v ≤ b) : (rs_adm b S N K).2.2 v = S.2.2 v := by
  show (if v = b + 1 then N else if b + 1 < v ∧ v ≤ b + 1 + N then K else S.2.2 v) = _
  rw [if_neg (by omega), if_neg (by omega)]
theorem rs_Rsame {σ : rs_Mem} {a k x u j : Nat} (h : u = a ∧ j = k) : rs_R (rs_sR σ a k x) u j = x := by simp [rs_R, rs_sR, rs_up, h]
theorem rs_Rother {σ : rs_Mem} {a k x u j : Nat} (h : ¬ (u = a ∧ j = k)) : rs_R (rs_sR σ a k x) u j = rs_R σ u j := by simp [rs_R, rs_sR, rs_up, h]
theorem rs_RI {σ : rs_Mem} {a k u j : Nat} {x : Int32} : rs_R (rs_sI σ a k x) u j = rs_R σ u j := rfl
theorem rs_Rmul {σ : rs_Mem} {a N u j : Nat} (h : u ≠ a) : rs_R (rs_mul σ a N) u j = rs_R σ u j := by simp [rs_R, rs_mul, h]
theorem rs_cast {G : rs_G} {s : State} (hK : rs_K G s) {kr : Nat} (h2 : kr ≤ 11) : ∃ kc : Class, s.vm.classes[G.1.1 kr]? = some kc ∧ s.vm.assignable (G.1.1 kr) (G.1.1 kr) = true := by
  have h := (hK.1.1 kr _ (rs_cl_at h2)).2
  obtain ⟨kc, hkc, -⟩ := h.2
  exact ⟨kc, hkc, va_assign h⟩
theorem rs_vv {S : rs_Shp} {vv c : Nat} (h : vv = S.1 + 1) (hb : S.1 = c) : vv = c + 1 := by subst hb; exact h
theorem rs_okup {S S' : rs_Shp} {b kd v n n' : Nat} (h : rs_Ok S kd v) (e : S'.2.1 v = S.2.1 v) (h1 : S.1 = b + n) (h2 : S'.1 = b + n') (hn : Nat.ble n n' = true) : rs_Ok S' kd v :=
  ⟨h.1, by have := h.2.1; have := Nat.le_of_ble_eq_true hn; omega, by rw [e]; exact h.2.2⟩
theorem rs_n11 {b i j : Nat} (h : Nat.ble i j = true) : b + i ≤ b + j := Nat.add_le_add_left (Nat.le_of_ble_eq_true h) b
theorem rs_n01 {b j : Nat} : b ≤ b + j := Nat.le_add_right b j
theorem rs_m11 {b i j : Nat} (h : Nat.ble (i + 1) j = true) : b + i < b + j := Nat.add_lt_add_left (Nat.le_of_ble_eq_true h) b
theorem rs_m01 {b j : Nat} (h : Nat.ble 1 j = true) : b < b + j := by have := Nat.le_of_ble_eq_true h; omega
theorem rs_q11 {b i j k k' : Nat} (h : (i == j && k == k') = false) : ¬ (b + i = b + j ∧ k = k') := fun q => by
  have h1 : i = j := by omega
  subst h1; obtain ⟨-, rfl⟩ := q; simp at h
theorem rs_q01 {b j k k' : Nat} (h : (0 == j && k == k') = false) : ¬ (b = b + j ∧ k = k') := rs_q11 (i := 0) h
theorem rs_q10 {b i k k' : Nat} (h : (i == 0 && k == k') = false) : ¬ (b + i = b ∧ k = k') := rs_q11 (j := 0) h
theorem rs_q00 {b k k' : Nat} (h : (k == k') = false) : ¬ (b = b ∧ k = k') := rs_q11 (i := 0) (j := 0) (by simpa using h)
theorem rs_p11 {b i j : Nat} (h : (i == j) = false) : b + i ≠ b + j := fun q => by
  have h1 : i = j := by omega
  subst h1; simp at h
theorem rs_p01 {b j : Nat} (h : (0 == j) = false) : b ≠ b + j := rs_p11 (i := 0) h
theorem rs_p10 {b i : Nat} (h : (i == 0) = false) : b + i ≠ b := rs_p11 (j := 0) h
section RCY
variable {p : Program} {l : Launch} {e : Env} {R : Room} {s : State} {m : MethodId} {args : Array Value} {below : List Frame} {meth : Method} {c : Code} {H : Heap} {locs : List Loc} {cells slots : Nat} {Q : State → Prop}
variable {cc : ByteArray} {pc : Nat} {ls : Array Slot} {rest : List Value} {G : rs_G} {Bm : Nat} {S : rs_Shp} {σ : rs_Mem} {own : String} {nL : Nat} {ret : Option FieldType} {H0 : Heap}
theorem rs_getVZ (C : rs_C own cc nL ret G p s m meth c args) (hH : rs_HZ G Bm S σ H) {kd v k kr index w : Nat} (hv : rs_Ok S kd v) (h0 : (1 ≤ kd ∧ kd ≤ 11) ∧ k < rs_nf kd ∧ rs_rf kd k = kr ∧ kr ≠ 0) (he : rs_R σ v k = w) (ok : rs_Ok S kr w)
    (hlink : Cond.fieldLink own index (rs_cn kd) (rs_ft kd k).2.1 (rs_ft kd k).2.2.1 ∈ rs_W) (hdg : decode cc pc = .ok (.getfield index, 3))
    (kk : W p l e R s m args below meth c H locs cells slots Q (F0 m (pc + 3) ls (.ref (Bm + w) :: rest))) : W p l e R s m args below meth c H locs cells slots Q (F0 m pc ls (.ref (Bm + v) :: rest)) := by
  subst he
  exact rs_getRZ C hH hv h0 ok hlink hdg kk
theorem rs_putNZ (C : rs_C own cc nL ret G p s m meth c args) (hH : rs_HZ G Bm S σ H) (hS : va_S (rs_A Bm) H0 H locs) {kd v k kr index : Nat} {x : Nat} (hv : rs_Ok S kd v) (h0 : (1 ≤ kd ∧ kd ≤ 11) ∧ k < rs_nf kd ∧ rs_rf kd k = kr ∧ kr ≠ 0) (hfin : (rs_ft kd k).2.2.2 = false)
    (hn : narrow (rs_ty kd k) (.ref (Bm + x)) = .ref (Bm + x)) (hfit : fits (rs_ty kd k) (.ref (Bm + x)) = true) (hr : rs_Ok S kr x)
    (hlink : Cond.fieldLink own index (rs_cn kd) (rs_ft kd k).2.1 (rs_ft kd k).2.2.1 ∈ rs_W) (hdg : decode cc pc = .ok (.putfield index, 3))
    (kk : ∀ (σ1 : rs_Mem) (H1 : Heap) (locs1 : List Loc), σ1 = rs_sR σ v k x → rs_HZ G Bm S σ1 H1 → va_S (rs_A Bm) H0 H1 locs1 → W p l e R s m args below meth c H1 locs1 cells slots Q (F0 m (pc + 3) ls rest)) : W p l e R s m args below meth c H locs cells slots Q (F0 m pc ls (.ref (Bm + x) :: .ref (Bm + v) :: rest)) := by
  obtain ⟨⟨a1, a2⟩, a3, a4, a5⟩ := h0
  have hx0 : x ≠ 0 := by have := hr.1; omega
  exact rs_putZ C hH hS hv a1 a2 a3 (Or.inl hfin) hn hfit rs_off_R (fun j _ => rs_fvR (by rw [a4]; exact a5) hx0 j) hlink hdg fun H1 locs1 g1 g2 => kk _ H1 locs1 rfl g1 g2
end RCY
theorem kb_61 : (Int8.ofInt (61)).toInt32 = (61 : Int32) := by decide +kernel
theorem ks_240 : (Int16.ofInt (240)).toInt32 = (240 : Int32) := by decide +kernel
theorem ks_256 : (Int16.ofInt (256)).toInt32 = (256 : Int32) := by decide +kernel
theorem ks_366 : (Int16.ofInt (366)).toInt32 = (366 : Int32) := by decide +kernel
theorem ks_488 : (Int16.ofInt (488)).toInt32 = (488 : Int32) := by decide +kernel
theorem ks_800 : (Int16.ofInt (800)).toInt32 = (800 : Int32) := by decide +kernel
theorem ks_1920 : (Int16.ofInt (1920)).toInt32 = (1920 : Int32) := by decide +kernel
