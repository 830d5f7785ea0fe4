/-! THE PURE LEVEL: no machine from here on. Cells: 1 RouteSpeaker, 2 Prefixes (3, 4, 5), 6 the peers' array, 7 own Route (8, 9), 10 Update (11 Route, 12, 13; 14 seen; 15), 16 Choice (17 measures, 18 to 24; 25; 26), 27 Letter (28); peer p at 29 + 63p =: b: b+1 Rules (b+2, b+3, b+4), b+5 inbox, b+6 Outbox (b+7), b+8 draft, b+9 Incoming (b+10 routes, b+11 damped, b+12 there, b+13 penalties, route k at b+14+3k with b+15+3k path, b+16+3k clusters), b+50 told (rows b+51+k); 281 Model, its arrays 282 to 319; 320, 321 the law's -/
def NF : Nat → Nat := rs_SF.2.2
def pb (p : Nat) : Nat := 29 + 63 * p
/-- references are what they were at first, but for Update.message -/
def Gr (σ : rs_Mem) : Prop := ∀ u j, ¬ (u = 10 ∧ j = 2) → rs_R σ u j = rs_R rs_MF u j
theorem Gr_I {σ : rs_Mem} {a k : Nat} {v : Int32} (h : Gr σ) : Gr (rs_sI σ a k v) := h
theorem Gr_L {σ : rs_Mem} {a k : Nat} {v : Int64} (h : Gr σ) : Gr (rs_sL σ a k v) := h
theorem Gr_D {σ : rs_Mem} {a k : Nat} {v : UInt64} (h : Gr σ) : Gr (rs_sD σ a k v) := h
theorem Gr_cp {σ : rs_Mem} {a b n : Nat} (h : Gr σ) : Gr (rs_cp σ a b n) := h
theorem Gr_R {σ : rs_Mem} {v : Nat} (h : Gr σ) : Gr (rs_sR σ 10 2 v) := fun u j hu => (rs_Rother hu).trans (h u j hu)
theorem Gr_0 : Gr rs_MF := fun _ _ _ => rfl
theorem Gr_of {σ τ : rs_Mem} (h : Gr σ) (e : ∀ u j, rs_R τ u j = rs_R σ u j) : Gr τ := fun u j hu => (e u j).trans (h u j hu)
theorem gr_1_0 {σ : rs_Mem} (h : Gr σ) : rs_R σ 1 0 = 2 := (h 1 0 (by decide)).trans (by decide +kernel)
theorem gr_1_1 {σ : rs_Mem} (h : Gr σ) : rs_R σ 1 1 = 6 := (h 1 1 (by decide)).trans (by decide +kernel)
theorem gr_1_2 {σ : rs_Mem} (h : Gr σ) : rs_R σ 1 2 = 7 := (h 1 2 (by decide)).trans (by decide +kernel)
theorem gr_1_3 {σ : rs_Mem} (h : Gr σ) : rs_R σ 1 3 = 10 := (h 1 3 (by decide)).trans (by decide +kernel)
theorem gr_1_4 {σ : rs_Mem} (h : Gr σ) : rs_R σ 1 4 = 16 := (h 1 4 (by decide)).trans (by decide +kernel)
theorem gr_1_5 {σ : rs_Mem} (h : Gr σ) : rs_R σ 1 5 = 27 := (h 1 5 (by decide)).trans (by decide +kernel)
theorem gr_2_0 {σ : rs_Mem} (h : Gr σ) : rs_R σ 2 0 = 3 := (h 2 0 (by decide)).trans (by decide +kernel)
theorem gr_2_1 {σ : rs_Mem} (h : Gr σ) : rs_R σ 2 1 = 4 := (h 2 1 (by decide)).trans (by decide +kernel)
theorem gr_2_2 {σ : rs_Mem} (h : Gr σ) : rs_R σ 2 2 = 5 := (h 2 2 (by decide)).trans (by decide +kernel)
theorem gr_7_2 {σ : rs_Mem} (h : Gr σ) : rs_R σ 7 2 = 8 := (h 7 2 (by decide)).trans (by decide +kernel)
theorem gr_7_8 {σ : rs_Mem} (h : Gr σ) : rs_R σ 7 8 = 9 := (h 7 8 (by decide)).trans (by decide +kernel)
theorem gr_10_0 {σ : rs_Mem} (h : Gr σ) : rs_R σ 10 0 = 11 := (h 10 0 (by decide)).trans (by decide +kernel)
theorem gr_10_1 {σ : rs_Mem} (h : Gr σ) : rs_R σ 10 1 = 14 := (h 10 1 (by decide)).trans (by decide +kernel)
theorem gr_11_2 {σ : rs_Mem} (h : Gr σ) : rs_R σ 11 2 = 12 := (h 11 2 (by decide)).trans (by decide +kernel)
theorem gr_11_8 {σ : rs_Mem} (h : Gr σ) : rs_R σ 11 8 = 13 := (h 11 8 (by decide)).trans (by decide +kernel)
theorem gr_16_0 {σ : rs_Mem} (h : Gr σ) : rs_R σ 16 0 = 17 := (h 16 0 (by decide)).trans (by decide +kernel)
theorem gr_16_1 {σ : rs_Mem} (h : Gr σ) : rs_R σ 16 1 = 25 := (h 16 1 (by decide)).trans (by decide +kernel)
theorem gr_16_2 {σ : rs_Mem} (h : Gr σ) : rs_R σ 16 2 = 26 := (h 16 2 (by decide)).trans (by decide +kernel)
theorem gr_27_0 {σ : rs_Mem} (h : Gr σ) : rs_R σ 27 0 = 28 := (h 27 0 (by decide)).trans (by decide +kernel)
theorem gr_281_1 {σ : rs_Mem} (h : Gr σ) : rs_R σ 281 1 = 282 := (h 281 1 (by decide)).trans (by decide +kernel)
theorem gr_281_2 {σ : rs_Mem} (h : Gr σ) : rs_R σ 281 2 = 283 := (h 281 2 (by decide)).trans (by decide +kernel)
theorem gr_281_3 {σ : rs_Mem} (h : Gr σ) : rs_R σ 281 3 = 284 := (h 281 3 (by decide)).trans (by decide +kernel)
theorem gr_281_4 {σ : rs_Mem} (h : Gr σ) : rs_R σ 281 4 = 285 := (h 281 4 (by decide)).trans (by decide +kernel)
theorem gr_281_5 {σ : rs_Mem} (h : Gr σ) : rs_R σ 281 5 = 286 := (h 281 5 (by decide)).trans (by decide +kernel)
theorem gr_281_6 {σ : rs_Mem} (h : Gr σ) : rs_R σ 281 6 = 287 := (h 281 6 (by decide)).trans (by decide +kernel)
theorem gr_281_7 {σ : rs_Mem} (h : Gr σ) : rs_R σ 281 7 = 288 := (h 281 7 (by decide)).trans (by decide +kernel)
theorem gr_281_8 {σ : rs_Mem} (h : Gr σ) : rs_R σ 281 8 = 289 := (h 281 8 (by decide)).trans (by decide +kernel)
theorem gr_281_9 {σ : rs_Mem} (h : Gr σ) : rs_R σ 281 9 = 290 := (h 281 9 (by decide)).trans (by decide +kernel)
theorem gr_281_10 {σ : rs_Mem} (h : Gr σ) : rs_R σ 281 10 = 291 := (h 281 10 (by decide)).trans (by decide +kernel)
theorem gr_281_11 {σ : rs_Mem} (h : Gr σ) : rs_R σ 281 11 = 292 := (h 281 11 (by decide)).trans (by decide +kernel)
theorem gr_281_12 {σ : rs_Mem} (h : Gr σ) : rs_R σ 281 12 = 293 := (h 281 12 (by decide)).trans (by decide +kernel)
theorem gr_281_13 {σ : rs_Mem} (h : Gr σ) : rs_R σ 281 13 = 294 := (h 281 13 (by decide)).trans (by decide +kernel)
theorem gr_281_14 {σ : rs_Mem} (h : Gr σ) : rs_R σ 281 14 = 295 := (h 281 14 (by decide)).trans (by decide +kernel)
theorem gr_281_15 {σ : rs_Mem} (h : Gr σ) : rs_R σ 281 15 = 296 := (h 281 15 (by decide)).trans (by decide +kernel)
theorem gr_281_16 {σ : rs_Mem} (h : Gr σ) : rs_R σ 281 16 = 297 := (h 281 16 (by decide)).trans (by decide +kernel)
theorem gr_281_17 {σ : rs_Mem} (h : Gr σ) : rs_R σ 281 17 = 298 := (h 281 17 (by decide)).trans (by decide +kernel)
theorem gr_281_18 {σ : rs_Mem} (h : Gr σ) : rs_R σ 281 18 = 299 := (h 281 18 (by decide)).trans (by decide +kernel)
theorem gr_281_19 {σ : rs_Mem} (h : Gr σ) : rs_R σ 281 19 = 300 := (h 281 19 (by decide)).trans (by decide +kernel)
theorem gr_281_22 {σ : rs_Mem} (h : Gr σ) : rs_R σ 281 22 = 301 := (h 281 22 (by decide)).trans (by decide +kernel)
theorem gr_281_23 {σ : rs_Mem} (h : Gr σ) : rs_R σ 281 23 = 302 := (h 281 23 (by decide)).trans (by decide +kernel)
theorem gr_281_24 {σ : rs_Mem} (h : Gr σ) : rs_R σ 281 24 = 303 := (h 281 24 (by decide)).trans (by decide +kernel)
theorem gr_281_25 {σ : rs_Mem} (h : Gr σ) : rs_R σ 281 25 = 304 := (h 281 25 (by decide)).trans (by decide +kernel)
theorem gr_281_26 {σ : rs_Mem} (h : Gr σ) : rs_R σ 281 26 = 305 := (h 281 26 (by decide)).trans (by decide +kernel)
theorem gr_281_27 {σ : rs_Mem} (h : Gr σ) : rs_R σ 281 27 = 306 := (h 281 27 (by decide)).trans (by decide +kernel)
theorem gr_281_28 {σ : rs_Mem} (h : Gr σ) : rs_R σ 281 28 = 307 := (h 281 28 (by decide)).trans (by decide +kernel)
theorem gr_281_29 {σ : rs_Mem} (h : Gr σ) : rs_R σ 281 29 = 308 := (h 281 29 (by decide)).trans (by decide +kernel)
theorem gr_281_30 {σ : rs_Mem} (h : Gr σ) : rs_R σ 281 30 = 309 := (h 281 30 (by decide)).trans (by decide +kernel)
theorem gr_281_31 {σ : rs_Mem} (h : Gr σ) : rs_R σ 281 31 = 310 := (h 281 31 (by decide)).trans (by decide +kernel)
theorem gr_281_32 {σ : rs_Mem} (h : Gr σ) : rs_R σ 281 32 = 311 := (h 281 32 (by decide)).trans (by decide +kernel)
theorem gr_281_33 {σ : rs_Mem} (h : Gr σ) : rs_R σ 281 33 = 312 := (h 281 33 (by decide)).trans (by decide +kernel)
theorem gr_281_34 {σ : rs_Mem} (h : Gr σ) : rs_R σ 281 34 = 313 := (h 281 34 (by decide)).trans (by decide +kernel)
theorem gr_281_35 {σ : rs_Mem} (h : Gr σ) : rs_R σ 281 35 = 314 := (h 281 35 (by decide)).trans (by decide +kernel)
theorem gr_281_36 {σ : rs_Mem} (h : Gr σ) : rs_R σ 281 36 = 315 := (h 281 36 (by decide)).trans (by decide +kernel)
theorem gr_281_37 {σ : rs_Mem} (h : Gr σ) : rs_R σ 281 37 = 316 := (h 281 37 (by decide)).trans (by decide +kernel)
theorem gr_281_38 {σ : rs_Mem} (h : Gr σ) : rs_R σ 281 38 = 317 := (h 281 38 (by decide)).trans (by decide +kernel)
theorem gr_281_39 {σ : rs_Mem} (h : Gr σ) : rs_R σ 281 39 = 318 := (h 281 39 (by decide)).trans (by decide +kernel)
theorem gr_281_40 {σ : rs_Mem} (h : Gr σ) : rs_R σ 281 40 = 319 := (h 281 40 (by decide)).trans (by decide +kernel)
theorem gr_6 {σ : rs_Mem} (h : Gr σ) {p : Nat} (hp : p < 4) : rs_R σ 6 p = pb p := (h 6 p (by omega)).trans ((by decide +kernel : ∀ p, p < 4 → rs_R rs_MF 6 p = pb p) p hp)
theorem gr_17 {σ : rs_Mem} (h : Gr σ) {t : Nat} (ht : t < 7) : rs_R σ 17 t = 18 + t := (h 17 t (by omega)).trans ((by decide +kernel : ∀ t, t < 7 → rs_R rs_MF 17 t = 18 + t) t ht)
theorem gp_0_5 {σ : rs_Mem} (h : Gr σ) {p : Nat} (hp : p < 4) : rs_R σ (pb p) 5 = pb p + 1 := (h _ 5 (by unfold pb; omega)).trans ((by decide +kernel : ∀ p, p < 4 → rs_R rs_MF (pb p) 5 = pb p + 1) p hp)
theorem gp_0_12 {σ : rs_Mem} (h : Gr σ) {p : Nat} (hp : p < 4) : rs_R σ (pb p) 12 = pb p + 5 := (h _ 12 (by unfold pb; omega)).trans ((by decide +kernel : ∀ p, p < 4 → rs_R rs_MF (pb p) 12 = pb p + 5) p hp)
theorem gp_0_13 {σ : rs_Mem} (h : Gr σ) {p : Nat} (hp : p < 4) : rs_R σ (pb p) 13 = pb p + 6 := (h _ 13 (by unfold pb; omega)).trans ((by decide +kernel : ∀ p, p < 4 → rs_R rs_MF (pb p) 13 = pb p + 6) p hp)
theorem gp_0_14 {σ : rs_Mem} (h : Gr σ) {p : Nat} (hp : p < 4) : rs_R σ (pb p) 14 = pb p + 8 := (h _ 14 (by unfold pb; omega)).trans ((by decide +kernel : ∀ p, p < 4 → rs_R rs_MF (pb p) 14 = pb p + 8) p hp)
theorem gp_0_15 {σ : rs_Mem} (h : Gr σ) {p : Nat} (hp : p < 4) : rs_R σ (pb p) 15 = pb p + 9 := (h _ 15 (by unfold pb; omega)).trans ((by decide +kernel : ∀ p, p < 4 → rs_R rs_MF (pb p) 15 = pb p + 9) p hp)
theorem gp_0_16 {σ : rs_Mem} (h : Gr σ) {p : Nat} (hp : p < 4) : rs_R σ (pb p) 16 = pb p + 50 := (h _ 16 (by unfold pb; omega)).trans ((by decide +kernel : ∀ p, p < 4 → rs_R rs_MF (pb p) 16 = pb p + 50) p hp)
theorem gp_1_0 {σ : rs_Mem} (h : Gr σ) {p : Nat} (hp : p < 4) : rs_R σ (pb p + 1) 0 = pb p + 2 := (h _ 0 (by unfold pb; omega)).trans ((by decide +kernel : ∀ p, p < 4 → rs_R rs_MF (pb p + 1) 0 = pb p + 2) p hp)
theorem gp_1_1 {σ : rs_Mem} (h : Gr σ) {p : Nat} (hp : p < 4) : rs_R σ (pb p + 1) 1 = pb p + 3 := (h _ 1 (by unfold pb; omega)).trans ((by decide +kernel : ∀ p, p < 4 → rs_R rs_MF (pb p + 1) 1 = pb p + 3) p hp)
theorem gp_1_2 {σ : rs_Mem} (h : Gr σ) {p : Nat} (hp : p < 4) : rs_R σ (pb p + 1) 2 = pb p + 4 := (h _ 2 (by unfold pb; omega)).trans ((by decide +kernel : ∀ p, p < 4 → rs_R rs_MF (pb p + 1) 2 = pb p + 4) p hp)
theorem gp_6_0 {σ : rs_Mem} (h : Gr σ) {p : Nat} (hp : p < 4) : rs_R σ (pb p + 6) 0 = pb p + 7 := (h _ 0 (by unfold pb; omega)).trans ((by decide +kernel : ∀ p, p < 4 → rs_R rs_MF (pb p + 6) 0 = pb p + 7) p hp)
theorem gp_9_0 {σ : rs_Mem} (h : Gr σ) {p : Nat} (hp : p < 4) : rs_R σ (pb p + 9) 0 = pb p + 10 := (h _ 0 (by unfold pb; omega)).trans ((by decide +kernel : ∀ p, p < 4 → rs_R rs_MF (pb p + 9) 0 = pb p + 10) p hp)
theorem gp_9_1 {σ : rs_Mem} (h : Gr σ) {p : Nat} (hp : p < 4) : rs_R σ (pb p + 9) 1 = pb p + 11 := (h _ 1 (by unfold pb; omega)).trans ((by decide +kernel : ∀ p, p < 4 → rs_R rs_MF (pb p + 9) 1 = pb p + 11) p hp)
theorem gp_9_2 {σ : rs_Mem} (h : Gr σ) {p : Nat} (hp : p < 4) : rs_R σ (pb p + 9) 2 = pb p + 12 := (h _ 2 (by unfold pb; omega)).trans ((by decide +kernel : ∀ p, p < 4 → rs_R rs_MF (pb p + 9) 2 = pb p + 12) p hp)
theorem gp_9_3 {σ : rs_Mem} (h : Gr σ) {p : Nat} (hp : p < 4) : rs_R σ (pb p + 9) 3 = pb p + 13 := (h _ 3 (by unfold pb; omega)).trans ((by decide +kernel : ∀ p, p < 4 → rs_R rs_MF (pb p + 9) 3 = pb p + 13) p hp)
theorem gp_10 {σ : rs_Mem} (h : Gr σ) {p k : Nat} (hp : p < 4) (hk : k < 12) : rs_R σ (pb p + 10) k = pb p + 14 + 3 * k := (h _ k (by unfold pb; omega)).trans ((by decide +kernel : ∀ p, p < 4 → ∀ k, k < 12 → rs_R rs_MF (pb p + 10) k = pb p + 14 + 3 * k) p hp k hk)
theorem gp_50 {σ : rs_Mem} (h : Gr σ) {p k : Nat} (hp : p < 4) (hk : k < 12) : rs_R σ (pb p + 50) k = pb p + 51 + k := (h _ k (by unfold pb; omega)).trans ((by decide +kernel : ∀ p, p < 4 → ∀ k, k < 12 → rs_R rs_MF (pb p + 50) k = pb p + 51 + k) p hp k hk)
/-- the cell of a route: of peer p at k; 4 the own one -/
theorem gp_rp {σ : rs_Mem} (h : Gr σ) {p k : Nat} (hp : p < 4) (hk : k < 12) : rs_R σ (pb p + 14 + 3 * k) 2 = pb p + 14 + 3 * k + 1 := (h _ 2 (by unfold pb; omega)).trans ((by decide +kernel : ∀ p, p < 4 → ∀ k, k < 12 → rs_R rs_MF (pb p + 14 + 3 * k) 2 = pb p + 14 + 3 * k + 1) p hp k hk)
theorem gp_rc {σ : rs_Mem} (h : Gr σ) {p k : Nat} (hp : p < 4) (hk : k < 12) : rs_R σ (pb p + 14 + 3 * k) 8 = pb p + 14 + 3 * k + 2 := (h _ 8 (by unfold pb; omega)).trans ((by decide +kernel : ∀ p, p < 4 → ∀ k, k < 12 → rs_R rs_MF (pb p + 14 + 3 * k) 8 = pb p + 14 + 3 * k + 2) p hp k hk)
theorem nf_3 : NF 3 = 12 := by decide +kernel
theorem nf_4 : NF 4 = 12 := by decide +kernel
theorem nf_5 : NF 5 = 12 := by decide +kernel
theorem nf_6 : NF 6 = 4 := by decide +kernel
theorem nf_8 : NF 8 = 8 := by decide +kernel
theorem nf_9 : NF 9 = 6 := by decide +kernel
theorem nf_12 : NF 12 = 8 := by decide +kernel
theorem nf_13 : NF 13 = 6 := by decide +kernel
theorem nf_14 : NF 14 = 256 := by decide +kernel
theorem nf_15 : NF 15 = 60 := by decide +kernel
theorem nf_17 : NF 17 = 7 := by decide +kernel
theorem nf_25 : NF 25 = 5 := by decide +kernel
theorem nf_26 : NF 26 = 5 := by decide +kernel
theorem nf_28 : NF 28 = 60 := by decide +kernel
theorem nf_320 : NF 320 = 1 := by decide +kernel
theorem nf_321 : NF 321 = 1 := by decide +kernel
theorem nf_282 : NF 282 = 4 := by decide +kernel
theorem nf_283 : NF 283 = 4 := by decide +kernel
theorem nf_284 : NF 284 = 4 := by decide +kernel
theorem nf_285 : NF 285 = 4 := by decide +kernel
theorem nf_286 : NF 286 = 4 := by decide +kernel
theorem nf_287 : NF 287 = 4 := by decide +kernel
theorem nf_288 : NF 288 = 4 := by decide +kernel
theorem nf_289 : NF 289 = 4 := by decide +kernel
theorem nf_290 : NF 290 = 4 := by decide +kernel
theorem nf_291 : NF 291 = 4 := by decide +kernel
theorem nf_292 : NF 292 = 4 := by decide +kernel
theorem nf_293 : NF 293 = 12 := by decide +kernel
theorem nf_294 : NF 294 = 12 := by decide +kernel
theorem nf_295 : NF 295 = 12 := by decide +kernel
theorem nf_296 : NF 296 = 240 := by decide +kernel
theorem nf_297 : NF 297 = 4 := by decide +kernel
theorem nf_298 : NF 298 = 800 := by decide +kernel
theorem nf_299 : NF 299 = 4 := by decide +kernel
theorem nf_300 : NF 300 = 60 := by decide +kernel
theorem nf_301 : NF 301 = 12 := by decide +kernel
theorem nf_302 : NF 302 = 12 := by decide +kernel
theorem nf_303 : NF 303 = 61 := by decide +kernel
theorem nf_304 : NF 304 = 61 := by decide +kernel
theorem nf_305 : NF 305 = 61 := by decide +kernel
theorem nf_306 : NF 306 = 488 := by decide +kernel
theorem nf_307 : NF 307 = 61 := by decide +kernel
theorem nf_308 : NF 308 = 61 := by decide +kernel
theorem nf_309 : NF 309 = 61 := by decide +kernel
theorem nf_310 : NF 310 = 61 := by decide +kernel
theorem nf_311 : NF 311 = 61 := by decide +kernel
theorem nf_312 : NF 312 = 366 := by decide +kernel
theorem nf_313 : NF 313 = 48 := by decide +kernel
theorem nf_314 : NF 314 = 48 := by decide +kernel
theorem nf_315 : NF 315 = 48 := by decide +kernel
theorem nf_316 : NF 316 = 1920 := by decide +kernel
theorem nf_317 : NF 317 = 40 := by decide +kernel
theorem nf_318 : NF 318 = 11 := by decide +kernel
theorem nf_319 : NF 319 = 5 := by decide +kernel
theorem nf_18 {t : Nat} (ht : t < 7) : NF (18 + t) = 5 := (by decide +kernel : ∀ t, t < 7 → NF (18 + t) = 5) t ht
theorem np_2 {p : Nat} (hp : p < 4) : NF (pb p + 2) = 3 := (by decide +kernel : ∀ p, p < 4 → NF (pb p + 2) = 3) p hp
theorem np_3 {p : Nat} (hp : p < 4) : NF (pb p + 3) = 3 := (by decide +kernel : ∀ p, p < 4 → NF (pb p + 3) = 3) p hp
theorem np_4 {p : Nat} (hp : p < 4) : NF (pb p + 4) = 3 := (by decide +kernel : ∀ p, p < 4 → NF (pb p + 4) = 3) p hp
theorem np_5 {p : Nat} (hp : p < 4) : NF (pb p + 5) = 60 := (by decide +kernel : ∀ p, p < 4 → NF (pb p + 5) = 60) p hp
theorem np_7 {p : Nat} (hp : p < 4) : NF (pb p + 7) = 200 := (by decide +kernel : ∀ p, p < 4 → NF (pb p + 7) = 200) p hp
theorem np_8 {p : Nat} (hp : p < 4) : NF (pb p + 8) = 6 := (by decide +kernel : ∀ p, p < 4 → NF (pb p + 8) = 6) p hp
theorem np_10 {p : Nat} (hp : p < 4) : NF (pb p + 10) = 12 := (by decide +kernel : ∀ p, p < 4 → NF (pb p + 10) = 12) p hp
theorem np_11 {p : Nat} (hp : p < 4) : NF (pb p + 11) = 12 := (by decide +kernel : ∀ p, p < 4 → NF (pb p + 11) = 12) p hp
theorem np_12 {p : Nat} (hp : p < 4) : NF (pb p + 12) = 12 := (by decide +kernel : ∀ p, p < 4 → NF (pb p + 12) = 12) p hp
theorem np_13 {p : Nat} (hp : p < 4) : NF (pb p + 13) = 12 := (by decide +kernel : ∀ p, p < 4 → NF (pb p + 13) = 12) p hp
theorem np_50 {p : Nat} (hp : p < 4) : NF (pb p + 50) = 12 := (by decide +kernel : ∀ p, p < 4 → NF (pb p + 50) = 12) p hp
theorem np_51 {p k : Nat} (hp : p < 4) (hk : k < 12) : NF (pb p + 51 + k) = 40 := (by decide +kernel : ∀ p, p < 4 → ∀ k, k < 12 → NF (pb p + 51 + k) = 40) p hp k hk
theorem np_rp {p k : Nat} (hp : p < 4) (hk : k < 12) : NF (pb p + 14 + 3 * k + 1) = 8 := (by decide +kernel : ∀ p, p < 4 → ∀ k, k < 12 → NF (pb p + 14 + 3 * k + 1) = 8) p hp k hk
theorem np_rc {p k : Nat} (hp : p < 4) (hk : k < 12) : NF (pb p + 14 + 3 * k + 2) = 6 := (by decide +kernel : ∀ p, p < 4 → ∀ k, k < 12 → NF (pb p + 14 + 3 * k + 2) = 6) p hp k hk
-- reading behind writes
theorem I_I {σ : rs_Mem} {a k u j : Nat} {v : Int32} : rs_I (rs_sI σ a k v) u j = if u = a ∧ j = k then v else rs_I σ u j := rfl
theorem I_same {σ : rs_Mem} {a k : Nat} {v : Int32} : rs_I (rs_sI σ a k v) a k = v := if_pos ⟨rfl, rfl⟩
theorem I_ne {σ : rs_Mem} {a k u j : Nat} {v : Int32} (h : u ≠ a) : rs_I (rs_sI σ a k v) u j = rs_I σ u j := if_neg fun q => h q.1
theorem I_nk {σ : rs_Mem} {a k u j : Nat} {v : Int32} (h : j ≠ k) : rs_I (rs_sI σ a k v) u j = rs_I σ u j := if_neg fun q => h q.2
theorem I_L {σ : rs_Mem} {a k u j : Nat} {v : Int64} : rs_I (rs_sL σ a k v) u j = rs_I σ u j := rfl
theorem I_D {σ : rs_Mem} {a k u j : Nat} {v : UInt64} : rs_I (rs_sD σ a k v) u j = rs_I σ u j := rfl
theorem I_R {σ : rs_Mem} {a k u j : Nat} {v : Nat} : rs_I (rs_sR σ a k v) u j = rs_I σ u j := rfl
theorem D_I {σ : rs_Mem} {a k u j : Nat} {v : Int32} : rs_D (rs_sI σ a k v) u j = rs_D σ u j := rfl
theorem D_D {σ : rs_Mem} {a k u j : Nat} {v : UInt64} : rs_D (rs_sD σ a k v) u j = if u = a ∧ j = k then v else rs_D σ u j := rfl
theorem R_I {σ : rs_Mem} {a k u j : Nat} {v : Int32} : rs_R (rs_sI σ a k v) u j = rs_R σ u j := rfl
theorem R_L {σ : rs_Mem} {a k u j : Nat} {v : Int64} : rs_R (rs_sL σ a k v) u j = rs_R σ u j := rfl
theorem R_D {σ : rs_Mem} {a k u j : Nat} {v : UInt64} : rs_R (rs_sD σ a k v) u j = rs_R σ u j := rfl
theorem I_cp {σ : rs_Mem} {a b n u j : Nat} : rs_I (rs_cp σ a b n) u j = if u = b ∧ j < n then rs_I σ a j else rs_I σ u j := rfl
/-- two memories that differ at cells of A alone -/
def Fr (A : Nat → Prop) (σ τ : rs_Mem) : Prop := ∀ u, ¬ A u → ∀ j, rs_I τ u j = rs_I σ u j ∧ rs_L τ u j = rs_L σ u j ∧ rs_D τ u j = rs_D σ u j ∧ rs_R τ u j = rs_R σ u j
theorem Fr.rf {A : Nat → Prop} {σ : rs_Mem} : Fr A σ σ := fun _ _ _ => ⟨rfl, rfl, rfl, rfl⟩
theorem Fr.tr {A : Nat → Prop} {σ τ ρ : rs_Mem} (h : Fr A σ τ) (g : Fr A τ ρ) : Fr A σ ρ := fun u hu j => by
  have h1 := h u hu j; have h2 := g u hu j
  exact ⟨h2.1.trans h1.1, h2.2.1.trans h1.2.1, h2.2.2.1.trans h1.2.2.1, h2.2.2.2.trans h1.2.2.2⟩
theorem Fr.mono {A B : Nat → Prop} {σ τ : rs_Mem} (h : Fr A σ τ) (hAB : ∀ u, A u → B u) : Fr B σ τ := fun u hu j => h u (fun q => hu (hAB u q)) j
theorem Fr.I {A : Nat → Prop} {σ τ : rs_Mem} (h : Fr A σ τ) {u : Nat} (hu : ¬ A u) (j : Nat) : rs_I τ u j = rs_I σ u j := (h u hu j).1
theorem Fr.D {A : Nat → Prop} {σ τ : rs_Mem} (h : Fr A σ τ) {u : Nat} (hu : ¬ A u) (j : Nat) : rs_D τ u j = rs_D σ u j := (h u hu j).2.2.1
theorem Fr.R {A : Nat → Prop} {σ τ : rs_Mem} (h : Fr A σ τ) {u : Nat} (hu : ¬ A u) (j : Nat) : rs_R τ u j = rs_R σ u j := (h u hu j).2.2.2
theorem Fr.off {A : Nat → Prop} {σ τ ρ : rs_Mem} {a : Nat} (h : Fr A σ τ) (ha : A a) (g : ∀ u, u ≠ a → ∀ j, rs_I ρ u j = rs_I τ u j ∧ rs_L ρ u j = rs_L τ u j ∧ rs_D ρ u j = rs_D τ u j ∧ rs_R ρ u j = rs_R τ u j) : Fr A σ ρ :=
  h.tr fun u hu j => g u (fun e => hu (by rw [e]; exact ha)) j
theorem Fr.sI {A : Nat → Prop} {σ τ : rs_Mem} {a k : Nat} {v : Int32} (h : Fr A σ τ) (ha : A a) : Fr A σ (rs_sI τ a k v) := h.off ha fun u hu j => ⟨by simp [rs_I, rs_sI, rs_up, hu], rfl, rfl, rfl⟩
theorem Fr.sL {A : Nat → Prop} {σ τ : rs_Mem} {a k : Nat} {v : Int64} (h : Fr A σ τ) (ha : A a) : Fr A σ (rs_sL τ a k v) := h.off ha fun u hu j => ⟨rfl, by simp [rs_L, rs_sL, rs_up, hu], rfl, rfl⟩
theorem Fr.sD {A : Nat → Prop} {σ τ : rs_Mem} {a k : Nat} {v : UInt64} (h : Fr A σ τ) (ha : A a) : Fr A σ (rs_sD τ a k v) := h.off ha fun u hu j => ⟨rfl, rfl, by simp [rs_D, rs_sD, rs_up, hu], rfl⟩
theorem Fr.sR {A : Nat → Prop} {σ τ : rs_Mem} {a k v : Nat} (h : Fr A σ τ) (ha : A a) : Fr A σ (rs_sR τ a k v) := h.off ha fun u hu j => ⟨rfl, rfl, rfl, by simp [rs_R, rs_sR, rs_up, hu]⟩
theorem Fr.cp {A : Nat → Prop} {σ τ : rs_Mem} {a b n : Nat} (h : Fr A σ τ) (ha : A b) : Fr A σ (rs_cp τ a b n) := h.off ha fun u hu j => ⟨by simp [rs_I, rs_cp, hu], rfl, rfl, rfl⟩
-- branches of a meaning
theorem w_t {c : Prop} {A B : Prop} (h : c) (a : A) : (c → A) ∧ (¬ c → B) := ⟨fun _ => a, fun n => absurd h n⟩
theorem w_f {c : Prop} {A B : Prop} (h : ¬ c) (b : B) : (c → A) ∧ (¬ c → B) := ⟨fun n => absurd n h, fun _ => b⟩
theorem v_t {c : Prop} {A B : Prop} (h : c) (a : A) : (¬ c → B) ∧ (c → A) := ⟨fun n => absurd h n, fun _ => a⟩
theorem v_f {c : Prop} {A B : Prop} (h : ¬ c) (b : B) : (¬ c → B) ∧ (c → A) := ⟨fun _ => b, fun n => absurd n h⟩
theorem w_ite {c : Prop} [d : Decidable c] {A B : Prop} (h : if c then A else B) : (c → A) ∧ (¬ c → B) := by
  by_cases hc : c
  · rw [if_pos hc] at h; exact w_t hc h
  · rw [if_neg hc] at h; exact w_f hc h
def b2i (b : Bool) : Int32 := if b then 1 else 0
theorem b2i_ne {b : Bool} : (b2i b = 0) ↔ b = false := by cases b <;> decide
theorem vpn {i n : Nat} (h : i < n) (hn : n < 1000000) : vp_in (nI i) n := vp_in_nI h (by omega)
theorem nIc {n : Nat} (h : n < 1000000) : (nI n).toNatClampNeg = n := nI_clamp (by omega)
theorem nIle {a b : Nat} (ha : a < 1000000) (hb : b < 1000000) : nI a ≤ nI b ↔ a ≤ b := nI_leI (by omega) (by omega)
theorem nIlt {a b : Nat} (ha : a < 1000000) (hb : b < 1000000) : nI a < nI b ↔ a < b := nI_ltI (by omega) (by omega)
theorem nIeq {a b : Nat} (ha : a < 1000000) (hb : b < 1000000) : nI a = nI b ↔ a = b := nI_eq (by omega) (by omega)
theorem nIm1 {a : Nat} (ha : a < 1000000) : nI a ≠ -1 := fun h => by
  have h1 := nI_toInt (n := a) (by omega)
  rw [h] at h1
  have h2 : (-1 : Int32).toInt = -1 := by decide
  omega
theorem nIsub {a b : Nat} (h : b ≤ a) : nI a - nI b = nI (a - b) := by
  have e := nI_add (a - b) b
  rw [Nat.sub_add_cancel h] at e
  rw [← e, Int32.add_sub_cancel]
