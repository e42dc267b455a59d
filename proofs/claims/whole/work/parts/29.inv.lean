/-! the invariant, whole -/
def gStr (a : Int32) (x44 : Nat → Int32) : Prop := ∀ j, j < nn a → x44 j ≤ 1000000
def gByt (tx : Nat → Nat → Int32) : Prop := ∀ j k, -128 ≤ tx j k ∧ tx j k ≤ 127
def Inv (M : Mem) : Prop := gR (M 126) (M 295) ∧
  gDay (M 2) (M 3) (M 288) (M 1 0) (M 287 0) ∧
  gSet (M 124) (M 325) ∧
  gPeo (M 4 0) (M 287 2) (M 1 0) (M 5) (M 6) (M 7) (M 8) (M 289) (M 290) (M 291) (M 294) ∧
  gPts (M 4 0) (M 1 0) (M 4 11) (M 287 96) (M 9) (M 10) (M 11) (M 12) (M 14) (M 292) (M 293) (M 360) ∧
  gWish (M 13) (M 348) ∧
  gActs (M 15 0) (M 287 12) (M 287 11) (rws M 17 1 25) (M 42) (M 43) (M 44) (M 296) (M 297) (M 298) (M 299) (M 300) okR ∧
  gStr (M 15 0) (M 44) ∧
  gByt (rws M 17 1 25) ∧
  gTerm (rws M 119 1 5) (M 305) (M 306) (M 307) ∧
  gMat (M 0 5) (M 287 32) (M 1 0) (M 51 5) (rws M 127 4 40) (rws M 128 4 40) (rws M 129 4 40) (rws M 130 4 40) (M 308) (M 309) (M 310) (M 311) (M 312) (M 313) (M 314) (M 315) (M 316) (M 317) (M 318) (M 319) (M 320) (M 321) ∧
  gSeat (M 51 1) (M 287 48) (M 4 0) (M 52) (M 53) (M 54) (M 322) (M 323) (M 324) ∧
  gSess (M 51 5) (M 287 52) (M 1 0) (M 0 5) (M 56) (M 57) (M 58) (M 59) (M 60) (M 326) (M 327) (M 328) (M 329) (M 317) (M 318) (M 321) ∧
  gAgr (M 62 0) (M 287 57) (M 1 0) (M 0 5) (M 63) (M 64) (M 65) (M 66) (M 67) (M 68) (M 330) (M 331) (M 332) (M 333) (M 334) (M 335) (M 311) (M 313) ∧
  gCon (M 69) (M 70) (M 71) (M 336) (M 337) (M 338) ∧
  gDeed (M 72 0) (M 287 67) (M 1 0) (M 0 5) (M 73) (M 74) (M 75) (M 76) (M 77) (M 339) (M 340) (M 341) (M 342) (M 343) (M 313) ∧
  gHang (M 72 6) (M 287 73) (M 1 0) (M 78) (M 79) (M 80) (M 344) (M 345) (M 346) ∧
  gNeed (M 82) (M 347) ∧
  gStu (M 98) (M 357) (rws M 100 1 5) (rws M 106 1 5) (M 358) (M 359) ∧
  gPlan (M 111 0) (M 287 97) (M 112) (M 113) (M 114) (M 361) (M 362) (M 363) ∧
  gRow (M 0 14) (M 287 106) (M 125) (M 368) ∧
  gPlC (M 111 0) (M 111 7) (M 111 8) (M 112) (M 113) (M 114) (M 117) ∧
  gRoC (M 81 15) (M 81 16) (M 81 2) (M 81 3) (M 81 12) (M 4 0) (M 83) (M 84) (M 94) (M 82) (M 5) (M 6) (M 13) ∧
  gRoM (M 287 89) (M 287 90) (M 287 91) (M 4 0) (M 352) (M 124) (M 82) (M 5) (M 6) (M 13)
theorem Inv.R {M : Mem} (H : Inv M) : gR (M 126) (M 295) := H.1
theorem Inv.D {M : Mem} (H : Inv M) : gDay (M 2) (M 3) (M 288) (M 1 0) (M 287 0) := H.2.1
theorem Inv.S {M : Mem} (H : Inv M) : gSet (M 124) (M 325) := H.2.2.1
theorem Inv.P {M : Mem} (H : Inv M) : gPeo (M 4 0) (M 287 2) (M 1 0) (M 5) (M 6) (M 7) (M 8) (M 289) (M 290) (M 291) (M 294) := H.2.2.2.1
theorem Inv.Q {M : Mem} (H : Inv M) : gPts (M 4 0) (M 1 0) (M 4 11) (M 287 96) (M 9) (M 10) (M 11) (M 12) (M 14) (M 292) (M 293) (M 360) := H.2.2.2.2.1
theorem Inv.W {M : Mem} (H : Inv M) : gWish (M 13) (M 348) := H.2.2.2.2.2.1
theorem Inv.A {M : Mem} (H : Inv M) : gActs (M 15 0) (M 287 12) (M 287 11) (rws M 17 1 25) (M 42) (M 43) (M 44) (M 296) (M 297) (M 298) (M 299) (M 300) okR := H.2.2.2.2.2.2.1
theorem Inv.X {M : Mem} (H : Inv M) : gStr (M 15 0) (M 44) := H.2.2.2.2.2.2.2.1
theorem Inv.B {M : Mem} (H : Inv M) : gByt (rws M 17 1 25) := H.2.2.2.2.2.2.2.2.1
theorem Inv.T {M : Mem} (H : Inv M) : gTerm (rws M 119 1 5) (M 305) (M 306) (M 307) := H.2.2.2.2.2.2.2.2.2.1
theorem Inv.M {M : Mem} (H : Inv M) : gMat (M 0 5) (M 287 32) (M 1 0) (M 51 5) (rws M 127 4 40) (rws M 128 4 40) (rws M 129 4 40) (rws M 130 4 40) (M 308) (M 309) (M 310) (M 311) (M 312) (M 313) (M 314) (M 315) (M 316) (M 317) (M 318) (M 319) (M 320) (M 321) := H.2.2.2.2.2.2.2.2.2.2.1
theorem Inv.V {M : Mem} (H : Inv M) : gSeat (M 51 1) (M 287 48) (M 4 0) (M 52) (M 53) (M 54) (M 322) (M 323) (M 324) := H.2.2.2.2.2.2.2.2.2.2.2.1
theorem Inv.N {M : Mem} (H : Inv M) : gSess (M 51 5) (M 287 52) (M 1 0) (M 0 5) (M 56) (M 57) (M 58) (M 59) (M 60) (M 326) (M 327) (M 328) (M 329) (M 317) (M 318) (M 321) := H.2.2.2.2.2.2.2.2.2.2.2.2.1
theorem Inv.G {M : Mem} (H : Inv M) : gAgr (M 62 0) (M 287 57) (M 1 0) (M 0 5) (M 63) (M 64) (M 65) (M 66) (M 67) (M 68) (M 330) (M 331) (M 332) (M 333) (M 334) (M 335) (M 311) (M 313) := H.2.2.2.2.2.2.2.2.2.2.2.2.2.1
theorem Inv.C {M : Mem} (H : Inv M) : gCon (M 69) (M 70) (M 71) (M 336) (M 337) (M 338) := H.2.2.2.2.2.2.2.2.2.2.2.2.2.2.1
theorem Inv.E {M : Mem} (H : Inv M) : gDeed (M 72 0) (M 287 67) (M 1 0) (M 0 5) (M 73) (M 74) (M 75) (M 76) (M 77) (M 339) (M 340) (M 341) (M 342) (M 343) (M 313) := H.2.2.2.2.2.2.2.2.2.2.2.2.2.2.2.1
theorem Inv.H {M : Mem} (H : Inv M) : gHang (M 72 6) (M 287 73) (M 1 0) (M 78) (M 79) (M 80) (M 344) (M 345) (M 346) := H.2.2.2.2.2.2.2.2.2.2.2.2.2.2.2.2.1
theorem Inv.F {M : Mem} (H : Inv M) : gNeed (M 82) (M 347) := H.2.2.2.2.2.2.2.2.2.2.2.2.2.2.2.2.2.1
theorem Inv.U {M : Mem} (H : Inv M) : gStu (M 98) (M 357) (rws M 100 1 5) (rws M 106 1 5) (M 358) (M 359) := H.2.2.2.2.2.2.2.2.2.2.2.2.2.2.2.2.2.2.1
theorem Inv.L {M : Mem} (H : Inv M) : gPlan (M 111 0) (M 287 97) (M 112) (M 113) (M 114) (M 361) (M 362) (M 363) := H.2.2.2.2.2.2.2.2.2.2.2.2.2.2.2.2.2.2.2.1
theorem Inv.O {M : Mem} (H : Inv M) : gRow (M 0 14) (M 287 106) (M 125) (M 368) := H.2.2.2.2.2.2.2.2.2.2.2.2.2.2.2.2.2.2.2.2.1
theorem Inv.I {M : Mem} (H : Inv M) : gPlC (M 111 0) (M 111 7) (M 111 8) (M 112) (M 113) (M 114) (M 117) := H.2.2.2.2.2.2.2.2.2.2.2.2.2.2.2.2.2.2.2.2.2.1
theorem Inv.J {M : Mem} (H : Inv M) : gRoC (M 81 15) (M 81 16) (M 81 2) (M 81 3) (M 81 12) (M 4 0) (M 83) (M 84) (M 94) (M 82) (M 5) (M 6) (M 13) := H.2.2.2.2.2.2.2.2.2.2.2.2.2.2.2.2.2.2.2.2.2.2.1
theorem Inv.K {M : Mem} (H : Inv M) : gRoM (M 287 89) (M 287 90) (M 287 91) (M 4 0) (M 352) (M 124) (M 82) (M 5) (M 6) (M 13) := H.2.2.2.2.2.2.2.2.2.2.2.2.2.2.2.2.2.2.2.2.2.2.2
/-- cells that no call reads but behind its own writing -/
def Sc (c k : Nat) : Prop := c = 45 ∨ c = 46 ∨ c = 48 ∨ c = 49 ∨ c = 50 ∨ c = 55 ∨ c = 85 ∨ c = 86 ∨ (88 ≤ c ∧ c ≤ 93) ∨ c = 95 ∨ c = 96 ∨ c = 115 ∨ c = 116 ∨ (301 ≤ c ∧ c ≤ 304) ∨ (349 ≤ c ∧ c ≤ 351) ∨ (353 ≤ c ∧ c ≤ 356) ∨ (364 ≤ c ∧ c ≤ 367) ∨ (c = 287 ∧ ((17 ≤ k ∧ k ≤ 27) ∨ k = 80 ∨ k = 86)) ∨ (c = 81 ∧ k = 4)
def Fr (M M' : Mem) : Prop := ∀ c k, ¬ Sc c k → M' c k = M c k
theorem Fr.refl (M : Mem) : Fr M M := fun _ _ _ => rfl
theorem Fr.trans {M M' M'' : Mem} (h : Fr M M') (h' : Fr M' M'') : Fr M M'' := fun c k q => (h' c k q).trans (h c k q)
theorem Fr.set {M M' : Mem} (h : Fr M M') {c k : Nat} (v : Int32) (hs : Sc c k) : Fr M (mset M' c k v) := fun c' k' q => by
  rw [mset_at, if_neg (fun e => q (by rw [e.1, e.2]; exact hs))]
  exact h c' k' q
theorem Fr.row {M M' : Mem} (h : Fr M M') {c : Nat} (hs : ∀ k, ¬ Sc c k) : M' c = M c := funext fun k => h c k (hs k)
theorem rws_fr {M M' : Mem} {b s n : Nat} (h : ∀ i, i < n → M' (b + s * i) = M (b + s * i)) : rws M' b s n = rws M b s n := by
  funext i
  unfold rws
  by_cases q : i < n
  · rw [if_pos q, if_pos q, h i q]
  · rw [if_neg q, if_neg q]
theorem Inv.cong {M M' : Mem} (hr : ∀ c, (1 < c ∧ c < 369 ∧ c ≠ 4 ∧ c ≠ 15 ∧ c ≠ 45 ∧ c ≠ 51 ∧ c ≠ 62 ∧ c ≠ 72 ∧ c ≠ 81 ∧ c ≠ 111 ∧ c ≠ 287) → (∀ k, ¬ Sc c k) → M' c = M c)
    (hs : ∀ c k, (c = 0 ∨ c = 1 ∨ c = 4 ∨ c = 15 ∨ c = 51 ∨ c = 62 ∨ c = 72 ∨ c = 81 ∨ c = 111 ∨ c = 287) → ¬ Sc c k → M' c k = M c k) (hm : ∀ i, i < 40 → M' (127 + 4 * i) = M (127 + 4 * i)) (H : Inv M) : Inv M' := by
  have r2 : M' 2 = M 2 := hr 2 (by decide) (fun k => by unfold Sc; omega)
  have r3 : M' 3 = M 3 := hr 3 (by decide) (fun k => by unfold Sc; omega)
  have r5 : M' 5 = M 5 := hr 5 (by decide) (fun k => by unfold Sc; omega)
  have r6 : M' 6 = M 6 := hr 6 (by decide) (fun k => by unfold Sc; omega)
  have r7 : M' 7 = M 7 := hr 7 (by decide) (fun k => by unfold Sc; omega)
  have r8 : M' 8 = M 8 := hr 8 (by decide) (fun k => by unfold Sc; omega)
  have r9 : M' 9 = M 9 := hr 9 (by decide) (fun k => by unfold Sc; omega)
  have r10 : M' 10 = M 10 := hr 10 (by decide) (fun k => by unfold Sc; omega)
  have r11 : M' 11 = M 11 := hr 11 (by decide) (fun k => by unfold Sc; omega)
  have r12 : M' 12 = M 12 := hr 12 (by decide) (fun k => by unfold Sc; omega)
  have r13 : M' 13 = M 13 := hr 13 (by decide) (fun k => by unfold Sc; omega)
  have r14 : M' 14 = M 14 := hr 14 (by decide) (fun k => by unfold Sc; omega)
  have r42 : M' 42 = M 42 := hr 42 (by decide) (fun k => by unfold Sc; omega)
  have r43 : M' 43 = M 43 := hr 43 (by decide) (fun k => by unfold Sc; omega)
  have r44 : M' 44 = M 44 := hr 44 (by decide) (fun k => by unfold Sc; omega)
  have r52 : M' 52 = M 52 := hr 52 (by decide) (fun k => by unfold Sc; omega)
  have r53 : M' 53 = M 53 := hr 53 (by decide) (fun k => by unfold Sc; omega)
  have r54 : M' 54 = M 54 := hr 54 (by decide) (fun k => by unfold Sc; omega)
  have r56 : M' 56 = M 56 := hr 56 (by decide) (fun k => by unfold Sc; omega)
  have r57 : M' 57 = M 57 := hr 57 (by decide) (fun k => by unfold Sc; omega)
  have r58 : M' 58 = M 58 := hr 58 (by decide) (fun k => by unfold Sc; omega)
  have r59 : M' 59 = M 59 := hr 59 (by decide) (fun k => by unfold Sc; omega)
  have r60 : M' 60 = M 60 := hr 60 (by decide) (fun k => by unfold Sc; omega)
  have r63 : M' 63 = M 63 := hr 63 (by decide) (fun k => by unfold Sc; omega)
  have r64 : M' 64 = M 64 := hr 64 (by decide) (fun k => by unfold Sc; omega)
  have r65 : M' 65 = M 65 := hr 65 (by decide) (fun k => by unfold Sc; omega)
  have r66 : M' 66 = M 66 := hr 66 (by decide) (fun k => by unfold Sc; omega)
  have r67 : M' 67 = M 67 := hr 67 (by decide) (fun k => by unfold Sc; omega)
  have r68 : M' 68 = M 68 := hr 68 (by decide) (fun k => by unfold Sc; omega)
  have r69 : M' 69 = M 69 := hr 69 (by decide) (fun k => by unfold Sc; omega)
  have r70 : M' 70 = M 70 := hr 70 (by decide) (fun k => by unfold Sc; omega)
  have r71 : M' 71 = M 71 := hr 71 (by decide) (fun k => by unfold Sc; omega)
  have r73 : M' 73 = M 73 := hr 73 (by decide) (fun k => by unfold Sc; omega)
  have r74 : M' 74 = M 74 := hr 74 (by decide) (fun k => by unfold Sc; omega)
  have r75 : M' 75 = M 75 := hr 75 (by decide) (fun k => by unfold Sc; omega)
  have r76 : M' 76 = M 76 := hr 76 (by decide) (fun k => by unfold Sc; omega)
  have r77 : M' 77 = M 77 := hr 77 (by decide) (fun k => by unfold Sc; omega)
  have r78 : M' 78 = M 78 := hr 78 (by decide) (fun k => by unfold Sc; omega)
  have r79 : M' 79 = M 79 := hr 79 (by decide) (fun k => by unfold Sc; omega)
  have r80 : M' 80 = M 80 := hr 80 (by decide) (fun k => by unfold Sc; omega)
  have r82 : M' 82 = M 82 := hr 82 (by decide) (fun k => by unfold Sc; omega)
  have r83 : M' 83 = M 83 := hr 83 (by decide) (fun k => by unfold Sc; omega)
  have r84 : M' 84 = M 84 := hr 84 (by decide) (fun k => by unfold Sc; omega)
  have r94 : M' 94 = M 94 := hr 94 (by decide) (fun k => by unfold Sc; omega)
  have r98 : M' 98 = M 98 := hr 98 (by decide) (fun k => by unfold Sc; omega)
  have r112 : M' 112 = M 112 := hr 112 (by decide) (fun k => by unfold Sc; omega)
  have r113 : M' 113 = M 113 := hr 113 (by decide) (fun k => by unfold Sc; omega)
  have r114 : M' 114 = M 114 := hr 114 (by decide) (fun k => by unfold Sc; omega)
  have r117 : M' 117 = M 117 := hr 117 (by decide) (fun k => by unfold Sc; omega)
  have r124 : M' 124 = M 124 := hr 124 (by decide) (fun k => by unfold Sc; omega)
  have r125 : M' 125 = M 125 := hr 125 (by decide) (fun k => by unfold Sc; omega)
  have r126 : M' 126 = M 126 := hr 126 (by decide) (fun k => by unfold Sc; omega)
  have r288 : M' 288 = M 288 := hr 288 (by decide) (fun k => by unfold Sc; omega)
  have r289 : M' 289 = M 289 := hr 289 (by decide) (fun k => by unfold Sc; omega)
  have r290 : M' 290 = M 290 := hr 290 (by decide) (fun k => by unfold Sc; omega)
  have r291 : M' 291 = M 291 := hr 291 (by decide) (fun k => by unfold Sc; omega)
  have r292 : M' 292 = M 292 := hr 292 (by decide) (fun k => by unfold Sc; omega)
  have r293 : M' 293 = M 293 := hr 293 (by decide) (fun k => by unfold Sc; omega)
  have r294 : M' 294 = M 294 := hr 294 (by decide) (fun k => by unfold Sc; omega)
  have r295 : M' 295 = M 295 := hr 295 (by decide) (fun k => by unfold Sc; omega)
  have r296 : M' 296 = M 296 := hr 296 (by decide) (fun k => by unfold Sc; omega)
  have r297 : M' 297 = M 297 := hr 297 (by decide) (fun k => by unfold Sc; omega)
  have r298 : M' 298 = M 298 := hr 298 (by decide) (fun k => by unfold Sc; omega)
  have r299 : M' 299 = M 299 := hr 299 (by decide) (fun k => by unfold Sc; omega)
  have r300 : M' 300 = M 300 := hr 300 (by decide) (fun k => by unfold Sc; omega)
  have r305 : M' 305 = M 305 := hr 305 (by decide) (fun k => by unfold Sc; omega)
  have r306 : M' 306 = M 306 := hr 306 (by decide) (fun k => by unfold Sc; omega)
  have r307 : M' 307 = M 307 := hr 307 (by decide) (fun k => by unfold Sc; omega)
  have r308 : M' 308 = M 308 := hr 308 (by decide) (fun k => by unfold Sc; omega)
  have r309 : M' 309 = M 309 := hr 309 (by decide) (fun k => by unfold Sc; omega)
  have r310 : M' 310 = M 310 := hr 310 (by decide) (fun k => by unfold Sc; omega)
  have r311 : M' 311 = M 311 := hr 311 (by decide) (fun k => by unfold Sc; omega)
  have r312 : M' 312 = M 312 := hr 312 (by decide) (fun k => by unfold Sc; omega)
  have r313 : M' 313 = M 313 := hr 313 (by decide) (fun k => by unfold Sc; omega)
  have r314 : M' 314 = M 314 := hr 314 (by decide) (fun k => by unfold Sc; omega)
  have r315 : M' 315 = M 315 := hr 315 (by decide) (fun k => by unfold Sc; omega)
  have r316 : M' 316 = M 316 := hr 316 (by decide) (fun k => by unfold Sc; omega)
  have r317 : M' 317 = M 317 := hr 317 (by decide) (fun k => by unfold Sc; omega)
  have r318 : M' 318 = M 318 := hr 318 (by decide) (fun k => by unfold Sc; omega)
  have r319 : M' 319 = M 319 := hr 319 (by decide) (fun k => by unfold Sc; omega)
  have r320 : M' 320 = M 320 := hr 320 (by decide) (fun k => by unfold Sc; omega)
  have r321 : M' 321 = M 321 := hr 321 (by decide) (fun k => by unfold Sc; omega)
  have r322 : M' 322 = M 322 := hr 322 (by decide) (fun k => by unfold Sc; omega)
  have r323 : M' 323 = M 323 := hr 323 (by decide) (fun k => by unfold Sc; omega)
  have r324 : M' 324 = M 324 := hr 324 (by decide) (fun k => by unfold Sc; omega)
  have r325 : M' 325 = M 325 := hr 325 (by decide) (fun k => by unfold Sc; omega)
  have r326 : M' 326 = M 326 := hr 326 (by decide) (fun k => by unfold Sc; omega)
  have r327 : M' 327 = M 327 := hr 327 (by decide) (fun k => by unfold Sc; omega)
  have r328 : M' 328 = M 328 := hr 328 (by decide) (fun k => by unfold Sc; omega)
  have r329 : M' 329 = M 329 := hr 329 (by decide) (fun k => by unfold Sc; omega)
  have r330 : M' 330 = M 330 := hr 330 (by decide) (fun k => by unfold Sc; omega)
  have r331 : M' 331 = M 331 := hr 331 (by decide) (fun k => by unfold Sc; omega)
  have r332 : M' 332 = M 332 := hr 332 (by decide) (fun k => by unfold Sc; omega)
  have r333 : M' 333 = M 333 := hr 333 (by decide) (fun k => by unfold Sc; omega)
  have r334 : M' 334 = M 334 := hr 334 (by decide) (fun k => by unfold Sc; omega)
  have r335 : M' 335 = M 335 := hr 335 (by decide) (fun k => by unfold Sc; omega)
  have r336 : M' 336 = M 336 := hr 336 (by decide) (fun k => by unfold Sc; omega)
  have r337 : M' 337 = M 337 := hr 337 (by decide) (fun k => by unfold Sc; omega)
  have r338 : M' 338 = M 338 := hr 338 (by decide) (fun k => by unfold Sc; omega)
  have r339 : M' 339 = M 339 := hr 339 (by decide) (fun k => by unfold Sc; omega)
  have r340 : M' 340 = M 340 := hr 340 (by decide) (fun k => by unfold Sc; omega)
  have r341 : M' 341 = M 341 := hr 341 (by decide) (fun k => by unfold Sc; omega)
  have r342 : M' 342 = M 342 := hr 342 (by decide) (fun k => by unfold Sc; omega)
  have r343 : M' 343 = M 343 := hr 343 (by decide) (fun k => by unfold Sc; omega)
  have r344 : M' 344 = M 344 := hr 344 (by decide) (fun k => by unfold Sc; omega)
  have r345 : M' 345 = M 345 := hr 345 (by decide) (fun k => by unfold Sc; omega)
  have r346 : M' 346 = M 346 := hr 346 (by decide) (fun k => by unfold Sc; omega)
  have r347 : M' 347 = M 347 := hr 347 (by decide) (fun k => by unfold Sc; omega)
  have r348 : M' 348 = M 348 := hr 348 (by decide) (fun k => by unfold Sc; omega)
  have r352 : M' 352 = M 352 := hr 352 (by decide) (fun k => by unfold Sc; omega)
  have r357 : M' 357 = M 357 := hr 357 (by decide) (fun k => by unfold Sc; omega)
  have r358 : M' 358 = M 358 := hr 358 (by decide) (fun k => by unfold Sc; omega)
  have r359 : M' 359 = M 359 := hr 359 (by decide) (fun k => by unfold Sc; omega)
  have r360 : M' 360 = M 360 := hr 360 (by decide) (fun k => by unfold Sc; omega)
  have r361 : M' 361 = M 361 := hr 361 (by decide) (fun k => by unfold Sc; omega)
  have r362 : M' 362 = M 362 := hr 362 (by decide) (fun k => by unfold Sc; omega)
  have r363 : M' 363 = M 363 := hr 363 (by decide) (fun k => by unfold Sc; omega)
  have r368 : M' 368 = M 368 := hr 368 (by decide) (fun k => by unfold Sc; omega)
  have s0_5 : M' 0 5 = M 0 5 := hs 0 5 (by decide) (by unfold Sc; omega)
  have s0_14 : M' 0 14 = M 0 14 := hs 0 14 (by decide) (by unfold Sc; omega)
  have s1_0 : M' 1 0 = M 1 0 := hs 1 0 (by decide) (by unfold Sc; omega)
  have s4_0 : M' 4 0 = M 4 0 := hs 4 0 (by decide) (by unfold Sc; omega)
  have s4_11 : M' 4 11 = M 4 11 := hs 4 11 (by decide) (by unfold Sc; omega)
  have s15_0 : M' 15 0 = M 15 0 := hs 15 0 (by decide) (by unfold Sc; omega)
  have s51_1 : M' 51 1 = M 51 1 := hs 51 1 (by decide) (by unfold Sc; omega)
  have s51_5 : M' 51 5 = M 51 5 := hs 51 5 (by decide) (by unfold Sc; omega)
  have s62_0 : M' 62 0 = M 62 0 := hs 62 0 (by decide) (by unfold Sc; omega)
  have s72_0 : M' 72 0 = M 72 0 := hs 72 0 (by decide) (by unfold Sc; omega)
  have s72_6 : M' 72 6 = M 72 6 := hs 72 6 (by decide) (by unfold Sc; omega)
  have s81_2 : M' 81 2 = M 81 2 := hs 81 2 (by decide) (by unfold Sc; omega)
  have s81_3 : M' 81 3 = M 81 3 := hs 81 3 (by decide) (by unfold Sc; omega)
  have s81_12 : M' 81 12 = M 81 12 := hs 81 12 (by decide) (by unfold Sc; omega)
  have s81_15 : M' 81 15 = M 81 15 := hs 81 15 (by decide) (by unfold Sc; omega)
  have s81_16 : M' 81 16 = M 81 16 := hs 81 16 (by decide) (by unfold Sc; omega)
  have s111_0 : M' 111 0 = M 111 0 := hs 111 0 (by decide) (by unfold Sc; omega)
  have s111_7 : M' 111 7 = M 111 7 := hs 111 7 (by decide) (by unfold Sc; omega)
  have s111_8 : M' 111 8 = M 111 8 := hs 111 8 (by decide) (by unfold Sc; omega)
  have s287_0 : M' 287 0 = M 287 0 := hs 287 0 (by decide) (by unfold Sc; omega)
  have s287_2 : M' 287 2 = M 287 2 := hs 287 2 (by decide) (by unfold Sc; omega)
  have s287_11 : M' 287 11 = M 287 11 := hs 287 11 (by decide) (by unfold Sc; omega)
  have s287_12 : M' 287 12 = M 287 12 := hs 287 12 (by decide) (by unfold Sc; omega)
  have s287_32 : M' 287 32 = M 287 32 := hs 287 32 (by decide) (by unfold Sc; omega)
  have s287_48 : M' 287 48 = M 287 48 := hs 287 48 (by decide) (by unfold Sc; omega)
  have s287_52 : M' 287 52 = M 287 52 := hs 287 52 (by decide) (by unfold Sc; omega)
  have s287_57 : M' 287 57 = M 287 57 := hs 287 57 (by decide) (by unfold Sc; omega)
  have s287_67 : M' 287 67 = M 287 67 := hs 287 67 (by decide) (by unfold Sc; omega)
  have s287_73 : M' 287 73 = M 287 73 := hs 287 73 (by decide) (by unfold Sc; omega)
  have s287_89 : M' 287 89 = M 287 89 := hs 287 89 (by decide) (by unfold Sc; omega)
  have s287_90 : M' 287 90 = M 287 90 := hs 287 90 (by decide) (by unfold Sc; omega)
  have s287_91 : M' 287 91 = M 287 91 := hs 287 91 (by decide) (by unfold Sc; omega)
  have s287_96 : M' 287 96 = M 287 96 := hs 287 96 (by decide) (by unfold Sc; omega)
  have s287_97 : M' 287 97 = M 287 97 := hs 287 97 (by decide) (by unfold Sc; omega)
  have s287_106 : M' 287 106 = M 287 106 := hs 287 106 (by decide) (by unfold Sc; omega)
  have w17 : rws M' 17 1 25 = rws M 17 1 25 := rws_fr (fun i hi => hr _ (by omega) (fun k => by unfold Sc; omega))
  have w100 : rws M' 100 1 5 = rws M 100 1 5 := rws_fr (fun i hi => hr _ (by omega) (fun k => by unfold Sc; omega))
  have w106 : rws M' 106 1 5 = rws M 106 1 5 := rws_fr (fun i hi => hr _ (by omega) (fun k => by unfold Sc; omega))
  have w119 : rws M' 119 1 5 = rws M 119 1 5 := rws_fr (fun i hi => hr _ (by omega) (fun k => by unfold Sc; omega))
  have w127 : rws M' 127 4 40 = rws M 127 4 40 := rws_fr hm
  have w128 : rws M' 128 4 40 = rws M 128 4 40 := rws_fr (fun i hi => hr _ (by omega) (fun k => by unfold Sc; omega))
  have w129 : rws M' 129 4 40 = rws M 129 4 40 := rws_fr (fun i hi => hr _ (by omega) (fun k => by unfold Sc; omega))
  have w130 : rws M' 130 4 40 = rws M 130 4 40 := rws_fr (fun i hi => hr _ (by omega) (fun k => by unfold Sc; omega))
  unfold Inv
  rw [r2, r3, r5, r6, r7, r8, r9, r10, r11, r12, r13, r14, r42, r43, r44, r52, r53, r54, r56, r57, r58, r59, r60, r63, r64, r65, r66, r67, r68, r69, r70, r71, r73, r74, r75, r76, r77, r78, r79, r80, r82, r83, r84, r94, r98, r112, r113, r114, r117, r124, r125, r126, r288, r289, r290, r291, r292, r293, r294, r295, r296, r297, r298, r299, r300, r305, r306, r307, r308, r309, r310, r311, r312, r313, r314, r315, r316, r317, r318, r319, r320, r321, r322, r323, r324, r325, r326, r327, r328, r329, r330, r331, r332, r333, r334, r335, r336, r337, r338, r339, r340, r341, r342, r343, r344, r345, r346, r347, r348, r352, r357, r358, r359, r360, r361, r362, r363, r368, s0_5, s0_14, s1_0, s4_0, s4_11, s15_0, s51_1, s51_5, s62_0, s72_0, s72_6, s81_2, s81_3, s81_12, s81_15, s81_16, s111_0, s111_7, s111_8, s287_0, s287_2, s287_11, s287_12, s287_32, s287_48, s287_52, s287_57, s287_67, s287_73, s287_89, s287_90, s287_91, s287_96, s287_97, s287_106, w17, w100, w106, w119, w127, w128, w129, w130]
  exact H
theorem Inv.fr {M M' : Mem} (hF : Fr M M') (H : Inv M) : Inv M' :=
  Inv.cong (fun c _ h => hF.row h) (fun c k _ h => hF c k h) (fun i _ => hF.row (fun k => by unfold Sc; omega)) H
