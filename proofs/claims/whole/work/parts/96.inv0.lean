/-! the invariant holds behind the constructors -/
theorem rw17 {j : Nat} (h : j < 25) : M0 (17 + 1 * j) = fun _ => 0 := by
  rcases (show j = 0 ∨ j = 1 ∨ j = 2 ∨ j = 3 ∨ j = 4 ∨ j = 5 ∨ j = 6 ∨ j = 7 ∨ j = 8 ∨ j = 9 ∨ j = 10 ∨ j = 11 ∨ j = 12 ∨ j = 13 ∨ j = 14 ∨ j = 15 ∨ j = 16 ∨ j = 17 ∨ j = 18 ∨ j = 19 ∨ j = 20 ∨ j = 21 ∨ j = 22 ∨ j = 23 ∨ j = 24 by omega) with rfl | rfl | rfl | rfl | rfl | rfl | rfl | rfl | rfl | rfl | rfl | rfl | rfl | rfl | rfl | rfl | rfl | rfl | rfl | rfl | rfl | rfl | rfl | rfl | rfl <;> rfl
theorem inv0 : Inv M0 := by
  have e0 : (0 : Int32) ≤ 0 := by decide
  have b0 : bz 0 := Or.inl rfl
  have nl : ∀ {j : Nat} {P : Prop}, j < nn 0 → P := fun h => absurd h (Nat.not_lt_zero _)
  have hR : gR (M0 126) (M0 295) := rfl
  have hD : gDay (M0 2) (M0 3) (M0 288) (M0 1 0) (M0 287 0) := ⟨rfl, e0, by decide, rfl, fun _ => b0, fun j hj => by
    show (if j < 1001 then nI (wd (fun _ => 0) j) else 0) = nI (wd (fun _ => 0) j)
    exact if_pos (by omega)⟩
  have hS : gSet (M0 124) (M0 325) := ⟨rfl, by decide, by decide, by decide, by decide, by decide, by decide, by decide⟩
  have hP : gPeo (M0 4 0) (M0 287 2) (M0 1 0) (M0 5) (M0 6) (M0 7) (M0 8) (M0 289) (M0 290) (M0 291) (M0 294) := ⟨rfl, e0, by decide, rfl, rfl, rfl, fun _ => ⟨e0, (by decide : (0 : Int32) ≤ 5)⟩, fun j h => nl h, fun _ => b0, fun _ => b0, fun _ _ => rfl, fun j h => nl h, fun j h => nl h⟩
  have hQ : gPts (M0 4 0) (M0 1 0) (M0 4 11) (M0 287 96) (M0 9) (M0 10) (M0 11) (M0 12) (M0 14) (M0 292) (M0 293) (M0 360) := ⟨rfl, fun k => by
    show 0 ≤ (if k < 4 then (1 : Int32) else 0) ∧ (if k < 4 then (1 : Int32) else 0) ≤ 9
    split <;> decide, fun j h => nl h, fun _ => ⟨e0, (by decide : (0 : Int32) ≤ 100)⟩, fun _ => ⟨e0, (by decide : (0 : Int32) ≤ 100)⟩, Or.inl ⟨rfl, rfl, fun k h => absurd h (Nat.not_lt_zero _)⟩⟩
  have hW : gWish (M0 13) (M0 348) := fun p _ b _ => by
    show (0 : Int32) = if bt 0 b then 1 else 0
    rw [show bt 0 b = false by simp [bt]]
    rfl
  have hA : gActs (M0 15 0) (M0 287 12) (M0 287 11) (rws M0 17 1 25) (M0 42) (M0 43) (M0 44) (M0 296) (M0 297) (M0 298) (M0 299) (M0 300) okR := ⟨rfl, e0, by decide, rfl, rfl, fun j h => ⟨e0, (by decide : (0 : Int32) ≤ 60)⟩, fun j h => nl h, rfl, fun j h => nl h, fun k h => nl h, fun j h => nl h⟩
  have hX : gStr (M0 15 0) (M0 44) := fun j h => nl h
  have hB : gByt (rws M0 17 1 25) := fun j k => by
    unfold rws
    split
    · next h => rw [rw17 h]; exact (by decide : -128 ≤ (0 : Int32) ∧ (0 : Int32) ≤ 127)
    · exact (by decide : -128 ≤ (0 : Int32) ∧ (0 : Int32) ≤ 127)
  have hT : gTerm (rws M0 119 1 5) (M0 305) (M0 306) (M0 307) := fun k hk => by
    rcases (show k = 0 ∨ k = 1 ∨ k = 2 ∨ k = 3 ∨ k = 4 by omega) with rfl | rfl | rfl | rfl | rfl <;> exact ⟨rfl, rfl, rfl, by decide, by decide, by decide, by decide, by unfold bz; decide⟩
  have hM : gMat (M0 0 5) (M0 287 32) (M0 1 0) (M0 51 5) (rws M0 127 4 40) (rws M0 128 4 40) (rws M0 129 4 40) (rws M0 130 4 40) (M0 308) (M0 309) (M0 310) (M0 311) (M0 312) (M0 313) (M0 314) (M0 315) (M0 316) (M0 317) (M0 318) (M0 319) (M0 320) (M0 321) := ⟨rfl, e0, by decide, fun i h => nl h, fun i _ h40 => ⟨by
    unfold rws
    rw [if_pos h40, M0_m h40]
    rfl, rfl⟩⟩
  have hV : gSeat (M0 51 1) (M0 287 48) (M0 4 0) (M0 52) (M0 53) (M0 54) (M0 322) (M0 323) (M0 324) := ⟨rfl, e0, by decide, rfl, rfl, rfl, fun _ => ⟨e0, (by decide : (0 : Int32) ≤ 999)⟩, fun _ => ⟨e0, (by decide : (0 : Int32) ≤ 5)⟩, fun k h => nl h⟩
  have hN : gSess (M0 51 5) (M0 287 52) (M0 1 0) (M0 0 5) (M0 56) (M0 57) (M0 58) (M0 59) (M0 60) (M0 326) (M0 327) (M0 328) (M0 329) (M0 317) (M0 318) (M0 321) := ⟨rfl, e0, by decide, rfl, rfl, rfl, rfl, fun _ => b0, fun k h => nl h⟩
  have hG : gAgr (M0 62 0) (M0 287 57) (M0 1 0) (M0 0 5) (M0 63) (M0 64) (M0 65) (M0 66) (M0 67) (M0 68) (M0 330) (M0 331) (M0 332) (M0 333) (M0 334) (M0 335) (M0 311) (M0 313) := ⟨rfl, e0, by decide, rfl, rfl, rfl, rfl, rfl, rfl, fun _ => b0, fun _ _ => rfl, fun k h => nl h⟩
  have hC : gCon (M0 69) (M0 70) (M0 71) (M0 336) (M0 337) (M0 338) := ⟨rfl, rfl, rfl, fun _ => b0, fun k hk => by
    show -1 ≤ (if k < 8 then (-1 : Int32) else 0) ∧ (if k < 8 then (-1 : Int32) else 0) ≤ 9999
    split <;> decide, fun _ => ⟨e0, (by decide : (0 : Int32) ≤ 2)⟩⟩
  have hE : gDeed (M0 72 0) (M0 287 67) (M0 1 0) (M0 0 5) (M0 73) (M0 74) (M0 75) (M0 76) (M0 77) (M0 339) (M0 340) (M0 341) (M0 342) (M0 343) (M0 313) := ⟨rfl, e0, by decide, rfl, rfl, rfl, rfl, fun _ => b0, fun k h => nl h⟩
  have hH : gHang (M0 72 6) (M0 287 73) (M0 1 0) (M0 78) (M0 79) (M0 80) (M0 344) (M0 345) (M0 346) := ⟨rfl, e0, by decide, rfl, rfl, rfl⟩
  have hF : gNeed (M0 82) (M0 347) := ⟨rfl, fun k => by
    show 0 ≤ (if k < 3 then (1 : Int32) else 0) ∧ (if k < 3 then (1 : Int32) else 0) ≤ 2
    split <;> decide⟩
  have hU : gStu (M0 98) (M0 357) (rws M0 100 1 5) (rws M0 106 1 5) (M0 358) (M0 359) := ⟨rfl, fun _ => ⟨e0, (by decide : (0 : Int32) ≤ 12)⟩, fun p _ k h => nl h⟩
  have hL : gPlan (M0 111 0) (M0 287 97) (M0 112) (M0 113) (M0 114) (M0 361) (M0 362) (M0 363) := ⟨rfl, e0, by decide, rfl, rfl, rfl, fun k h => nl h⟩
  have hO : gRow (M0 0 14) (M0 287 106) (M0 125) (M0 368) := ⟨rfl, e0, by decide, rfl⟩
  have hI : gPlC (M0 111 0) (M0 111 7) (M0 111 8) (M0 112) (M0 113) (M0 114) (M0 117) := Or.inl rfl
  have hJ : gRoC (M0 81 15) (M0 81 16) (M0 81 2) (M0 81 3) (M0 81 12) (M0 4 0) (M0 83) (M0 84) (M0 94) (M0 82) (M0 5) (M0 6) (M0 13) := ⟨Or.inl rfl, fun h => absurd h (by decide)⟩
  have hK : gRoM (M0 287 89) (M0 287 90) (M0 287 91) (M0 4 0) (M0 352) (M0 124) (M0 82) (M0 5) (M0 6) (M0 13) := Or.inl rfl
  exact ⟨hR, hD, hS, hP, hQ, hW, hA, hX, hB, hT, hM, hV, hN, hG, hC, hE, hH, hF, hU, hL, hO, hI, hJ, hK⟩
