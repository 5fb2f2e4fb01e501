/-! views under a write -/
def cap16 (q : Nat) : Nat := if q < 16 then q else 16
def cap4 (q : Nat) : Nat := if q < 4 then q else 4
def setA (v : LV) (j : Nat) (i x : Int) : LV := (fun q => if cap16 q = j then (fun i' => if i' = i then x else v.1 q i') else v.1 q, v.2)
def setN (v : LV) (j : Nat) (x : Int) : LV := (v.1, fun q => if cap4 q = j then x else v.2 q)
theorem setA_ne {v : LV} {j q : Nat} {i x : Int} (h : cap16 q ≠ j) : (setA v j i x).1 q = v.1 q := if_neg h
theorem setA_at {v : LV} {j : Nat} {i x : Int} (h : cap16 j = j) (i' : Int) : (setA v j i x).1 j i' = if i' = i then x else v.1 j i' := by
  show (if cap16 j = j then (fun i' => if i' = i then x else v.1 j i') else v.1 j) i' = _
  rw [if_pos h]
theorem setA_2 {v : LV} {j : Nat} {i x : Int} : (setA v j i x).2 = v.2 := rfl
theorem setN_1 {v : LV} {j : Nat} {x : Int} : (setN v j x).1 = v.1 := rfl
theorem setN_ne {v : LV} {j q : Nat} {x : Int} (h : cap4 q ≠ j) : (setN v j x).2 q = v.2 q := if_neg h
theorem setN_eq {v : LV} {j q : Nat} {x : Int} (h : cap4 q = j) : (setN v j x).2 q = x := if_pos h
theorem cap16_hi (q : Nat) : cap16 (q + 16) = 16 := if_neg (by omega)
theorem cap4_hi (q : Nat) : cap4 (q + 4) = 4 := if_neg (by omega)
theorem setA_hi {v : LV} {q : Nat} {i x : Int} : (setA v 16 i x).1 (q + 16) = fun i' => if i' = i then x else v.1 (q + 16) i' := by
  unfold setA
  dsimp only
  rw [if_pos (cap16_hi q)]
theorem cVs0 (μ : GM) (i x : Int) : cV 22 (gA μ 2 i x) = setA (cV 22 μ) 0 i x := by
  refine lv_ext (fun q => ?_) (fun q => rfl)
  match q with
  | 0 => exact funext fun i' => (gA_at μ 2 i i' x).trans (setA_at (v := cV 22 μ) (j := 0) (i := i) (x := x) rfl i').symm
  | 1 => exact (gA_nk μ i x (show (3 : Nat) ≠ 2 by decide)).trans (setA_ne (v := cV 22 μ) (j := 0) (q := 1) (i := i) (x := x) (by decide)).symm
  | 2 => exact (gA_nk μ i x (show (4 : Nat) ≠ 2 by decide)).trans (setA_ne (v := cV 22 μ) (j := 0) (q := 2) (i := i) (x := x) (by decide)).symm
  | 3 => exact (gA_nk μ i x (show (6 : Nat) ≠ 2 by decide)).trans (setA_ne (v := cV 22 μ) (j := 0) (q := 3) (i := i) (x := x) (by decide)).symm
  | 4 => exact (gA_nk μ i x (show (7 : Nat) ≠ 2 by decide)).trans (setA_ne (v := cV 22 μ) (j := 0) (q := 4) (i := i) (x := x) (by decide)).symm
  | 5 => exact (gA_nk μ i x (show (8 : Nat) ≠ 2 by decide)).trans (setA_ne (v := cV 22 μ) (j := 0) (q := 5) (i := i) (x := x) (by decide)).symm
  | 6 => exact (gA_nk μ i x (show (10 : Nat) ≠ 2 by decide)).trans (setA_ne (v := cV 22 μ) (j := 0) (q := 6) (i := i) (x := x) (by decide)).symm
  | 7 => exact (gA_nk μ i x (show (11 : Nat) ≠ 2 by decide)).trans (setA_ne (v := cV 22 μ) (j := 0) (q := 7) (i := i) (x := x) (by decide)).symm
  | 8 => exact (gA_nk μ i x (show (12 : Nat) ≠ 2 by decide)).trans (setA_ne (v := cV 22 μ) (j := 0) (q := 8) (i := i) (x := x) (by decide)).symm
  | 9 => exact (gA_nk μ i x (show (13 : Nat) ≠ 2 by decide)).trans (setA_ne (v := cV 22 μ) (j := 0) (q := 9) (i := i) (x := x) (by decide)).symm
  | 10 => exact (gA_nk μ i x (show (15 : Nat) ≠ 2 by decide)).trans (setA_ne (v := cV 22 μ) (j := 0) (q := 10) (i := i) (x := x) (by decide)).symm
  | 11 => exact (gA_nk μ i x (show (16 : Nat) ≠ 2 by decide)).trans (setA_ne (v := cV 22 μ) (j := 0) (q := 11) (i := i) (x := x) (by decide)).symm
  | 12 => exact (gA_nk μ i x (show (17 : Nat) ≠ 2 by decide)).trans (setA_ne (v := cV 22 μ) (j := 0) (q := 12) (i := i) (x := x) (by decide)).symm
  | 13 => exact (gA_nk μ i x (show (19 : Nat) ≠ 2 by decide)).trans (setA_ne (v := cV 22 μ) (j := 0) (q := 13) (i := i) (x := x) (by decide)).symm
  | 14 => exact (gA_nk μ i x (show (20 : Nat) ≠ 2 by decide)).trans (setA_ne (v := cV 22 μ) (j := 0) (q := 14) (i := i) (x := x) (by decide)).symm
  | 15 => exact (gA_nk μ i x (show (21 : Nat) ≠ 2 by decide)).trans (setA_ne (v := cV 22 μ) (j := 0) (q := 15) (i := i) (x := x) (by decide)).symm
  | q + 16 => exact (gA_nk μ i x (show (22 : Nat) ≠ 2 by decide)).trans (setA_ne (v := cV 22 μ) (j := 0) (q := q + 16) (i := i) (x := x) (by rw [cap16_hi]; decide)).symm
theorem cVs1 (μ : GM) (i x : Int) : cV 22 (gA μ 3 i x) = setA (cV 22 μ) 1 i x := by
  refine lv_ext (fun q => ?_) (fun q => rfl)
  match q with
  | 0 => exact (gA_nk μ i x (show (2 : Nat) ≠ 3 by decide)).trans (setA_ne (v := cV 22 μ) (j := 1) (q := 0) (i := i) (x := x) (by decide)).symm
  | 1 => exact funext fun i' => (gA_at μ 3 i i' x).trans (setA_at (v := cV 22 μ) (j := 1) (i := i) (x := x) rfl i').symm
  | 2 => exact (gA_nk μ i x (show (4 : Nat) ≠ 3 by decide)).trans (setA_ne (v := cV 22 μ) (j := 1) (q := 2) (i := i) (x := x) (by decide)).symm
  | 3 => exact (gA_nk μ i x (show (6 : Nat) ≠ 3 by decide)).trans (setA_ne (v := cV 22 μ) (j := 1) (q := 3) (i := i) (x := x) (by decide)).symm
  | 4 => exact (gA_nk μ i x (show (7 : Nat) ≠ 3 by decide)).trans (setA_ne (v := cV 22 μ) (j := 1) (q := 4) (i := i) (x := x) (by decide)).symm
  | 5 => exact (gA_nk μ i x (show (8 : Nat) ≠ 3 by decide)).trans (setA_ne (v := cV 22 μ) (j := 1) (q := 5) (i := i) (x := x) (by decide)).symm
  | 6 => exact (gA_nk μ i x (show (10 : Nat) ≠ 3 by decide)).trans (setA_ne (v := cV 22 μ) (j := 1) (q := 6) (i := i) (x := x) (by decide)).symm
  | 7 => exact (gA_nk μ i x (show (11 : Nat) ≠ 3 by decide)).trans (setA_ne (v := cV 22 μ) (j := 1) (q := 7) (i := i) (x := x) (by decide)).symm
  | 8 => exact (gA_nk μ i x (show (12 : Nat) ≠ 3 by decide)).trans (setA_ne (v := cV 22 μ) (j := 1) (q := 8) (i := i) (x := x) (by decide)).symm
  | 9 => exact (gA_nk μ i x (show (13 : Nat) ≠ 3 by decide)).trans (setA_ne (v := cV 22 μ) (j := 1) (q := 9) (i := i) (x := x) (by decide)).symm
  | 10 => exact (gA_nk μ i x (show (15 : Nat) ≠ 3 by decide)).trans (setA_ne (v := cV 22 μ) (j := 1) (q := 10) (i := i) (x := x) (by decide)).symm
  | 11 => exact (gA_nk μ i x (show (16 : Nat) ≠ 3 by decide)).trans (setA_ne (v := cV 22 μ) (j := 1) (q := 11) (i := i) (x := x) (by decide)).symm
  | 12 => exact (gA_nk μ i x (show (17 : Nat) ≠ 3 by decide)).trans (setA_ne (v := cV 22 μ) (j := 1) (q := 12) (i := i) (x := x) (by decide)).symm
  | 13 => exact (gA_nk μ i x (show (19 : Nat) ≠ 3 by decide)).trans (setA_ne (v := cV 22 μ) (j := 1) (q := 13) (i := i) (x := x) (by decide)).symm
  | 14 => exact (gA_nk μ i x (show (20 : Nat) ≠ 3 by decide)).trans (setA_ne (v := cV 22 μ) (j := 1) (q := 14) (i := i) (x := x) (by decide)).symm
  | 15 => exact (gA_nk μ i x (show (21 : Nat) ≠ 3 by decide)).trans (setA_ne (v := cV 22 μ) (j := 1) (q := 15) (i := i) (x := x) (by decide)).symm
  | q + 16 => exact (gA_nk μ i x (show (22 : Nat) ≠ 3 by decide)).trans (setA_ne (v := cV 22 μ) (j := 1) (q := q + 16) (i := i) (x := x) (by rw [cap16_hi]; decide)).symm
theorem cVs2 (μ : GM) (i x : Int) : cV 22 (gA μ 4 i x) = setA (cV 22 μ) 2 i x := by
  refine lv_ext (fun q => ?_) (fun q => rfl)
  match q with
  | 0 => exact (gA_nk μ i x (show (2 : Nat) ≠ 4 by decide)).trans (setA_ne (v := cV 22 μ) (j := 2) (q := 0) (i := i) (x := x) (by decide)).symm
  | 1 => exact (gA_nk μ i x (show (3 : Nat) ≠ 4 by decide)).trans (setA_ne (v := cV 22 μ) (j := 2) (q := 1) (i := i) (x := x) (by decide)).symm
  | 2 => exact funext fun i' => (gA_at μ 4 i i' x).trans (setA_at (v := cV 22 μ) (j := 2) (i := i) (x := x) rfl i').symm
  | 3 => exact (gA_nk μ i x (show (6 : Nat) ≠ 4 by decide)).trans (setA_ne (v := cV 22 μ) (j := 2) (q := 3) (i := i) (x := x) (by decide)).symm
  | 4 => exact (gA_nk μ i x (show (7 : Nat) ≠ 4 by decide)).trans (setA_ne (v := cV 22 μ) (j := 2) (q := 4) (i := i) (x := x) (by decide)).symm
  | 5 => exact (gA_nk μ i x (show (8 : Nat) ≠ 4 by decide)).trans (setA_ne (v := cV 22 μ) (j := 2) (q := 5) (i := i) (x := x) (by decide)).symm
  | 6 => exact (gA_nk μ i x (show (10 : Nat) ≠ 4 by decide)).trans (setA_ne (v := cV 22 μ) (j := 2) (q := 6) (i := i) (x := x) (by decide)).symm
  | 7 => exact (gA_nk μ i x (show (11 : Nat) ≠ 4 by decide)).trans (setA_ne (v := cV 22 μ) (j := 2) (q := 7) (i := i) (x := x) (by decide)).symm
  | 8 => exact (gA_nk μ i x (show (12 : Nat) ≠ 4 by decide)).trans (setA_ne (v := cV 22 μ) (j := 2) (q := 8) (i := i) (x := x) (by decide)).symm
  | 9 => exact (gA_nk μ i x (show (13 : Nat) ≠ 4 by decide)).trans (setA_ne (v := cV 22 μ) (j := 2) (q := 9) (i := i) (x := x) (by decide)).symm
  | 10 => exact (gA_nk μ i x (show (15 : Nat) ≠ 4 by decide)).trans (setA_ne (v := cV 22 μ) (j := 2) (q := 10) (i := i) (x := x) (by decide)).symm
  | 11 => exact (gA_nk μ i x (show (16 : Nat) ≠ 4 by decide)).trans (setA_ne (v := cV 22 μ) (j := 2) (q := 11) (i := i) (x := x) (by decide)).symm
  | 12 => exact (gA_nk μ i x (show (17 : Nat) ≠ 4 by decide)).trans (setA_ne (v := cV 22 μ) (j := 2) (q := 12) (i := i) (x := x) (by decide)).symm
  | 13 => exact (gA_nk μ i x (show (19 : Nat) ≠ 4 by decide)).trans (setA_ne (v := cV 22 μ) (j := 2) (q := 13) (i := i) (x := x) (by decide)).symm
  | 14 => exact (gA_nk μ i x (show (20 : Nat) ≠ 4 by decide)).trans (setA_ne (v := cV 22 μ) (j := 2) (q := 14) (i := i) (x := x) (by decide)).symm
  | 15 => exact (gA_nk μ i x (show (21 : Nat) ≠ 4 by decide)).trans (setA_ne (v := cV 22 μ) (j := 2) (q := 15) (i := i) (x := x) (by decide)).symm
  | q + 16 => exact (gA_nk μ i x (show (22 : Nat) ≠ 4 by decide)).trans (setA_ne (v := cV 22 μ) (j := 2) (q := q + 16) (i := i) (x := x) (by rw [cap16_hi]; decide)).symm
theorem cVs3 (μ : GM) (i x : Int) : cV 22 (gA μ 6 i x) = setA (cV 22 μ) 3 i x := by
  refine lv_ext (fun q => ?_) (fun q => rfl)
  match q with
  | 0 => exact (gA_nk μ i x (show (2 : Nat) ≠ 6 by decide)).trans (setA_ne (v := cV 22 μ) (j := 3) (q := 0) (i := i) (x := x) (by decide)).symm
  | 1 => exact (gA_nk μ i x (show (3 : Nat) ≠ 6 by decide)).trans (setA_ne (v := cV 22 μ) (j := 3) (q := 1) (i := i) (x := x) (by decide)).symm
  | 2 => exact (gA_nk μ i x (show (4 : Nat) ≠ 6 by decide)).trans (setA_ne (v := cV 22 μ) (j := 3) (q := 2) (i := i) (x := x) (by decide)).symm
  | 3 => exact funext fun i' => (gA_at μ 6 i i' x).trans (setA_at (v := cV 22 μ) (j := 3) (i := i) (x := x) rfl i').symm
  | 4 => exact (gA_nk μ i x (show (7 : Nat) ≠ 6 by decide)).trans (setA_ne (v := cV 22 μ) (j := 3) (q := 4) (i := i) (x := x) (by decide)).symm
  | 5 => exact (gA_nk μ i x (show (8 : Nat) ≠ 6 by decide)).trans (setA_ne (v := cV 22 μ) (j := 3) (q := 5) (i := i) (x := x) (by decide)).symm
  | 6 => exact (gA_nk μ i x (show (10 : Nat) ≠ 6 by decide)).trans (setA_ne (v := cV 22 μ) (j := 3) (q := 6) (i := i) (x := x) (by decide)).symm
  | 7 => exact (gA_nk μ i x (show (11 : Nat) ≠ 6 by decide)).trans (setA_ne (v := cV 22 μ) (j := 3) (q := 7) (i := i) (x := x) (by decide)).symm
  | 8 => exact (gA_nk μ i x (show (12 : Nat) ≠ 6 by decide)).trans (setA_ne (v := cV 22 μ) (j := 3) (q := 8) (i := i) (x := x) (by decide)).symm
  | 9 => exact (gA_nk μ i x (show (13 : Nat) ≠ 6 by decide)).trans (setA_ne (v := cV 22 μ) (j := 3) (q := 9) (i := i) (x := x) (by decide)).symm
  | 10 => exact (gA_nk μ i x (show (15 : Nat) ≠ 6 by decide)).trans (setA_ne (v := cV 22 μ) (j := 3) (q := 10) (i := i) (x := x) (by decide)).symm
  | 11 => exact (gA_nk μ i x (show (16 : Nat) ≠ 6 by decide)).trans (setA_ne (v := cV 22 μ) (j := 3) (q := 11) (i := i) (x := x) (by decide)).symm
  | 12 => exact (gA_nk μ i x (show (17 : Nat) ≠ 6 by decide)).trans (setA_ne (v := cV 22 μ) (j := 3) (q := 12) (i := i) (x := x) (by decide)).symm
  | 13 => exact (gA_nk μ i x (show (19 : Nat) ≠ 6 by decide)).trans (setA_ne (v := cV 22 μ) (j := 3) (q := 13) (i := i) (x := x) (by decide)).symm
  | 14 => exact (gA_nk μ i x (show (20 : Nat) ≠ 6 by decide)).trans (setA_ne (v := cV 22 μ) (j := 3) (q := 14) (i := i) (x := x) (by decide)).symm
  | 15 => exact (gA_nk μ i x (show (21 : Nat) ≠ 6 by decide)).trans (setA_ne (v := cV 22 μ) (j := 3) (q := 15) (i := i) (x := x) (by decide)).symm
  | q + 16 => exact (gA_nk μ i x (show (22 : Nat) ≠ 6 by decide)).trans (setA_ne (v := cV 22 μ) (j := 3) (q := q + 16) (i := i) (x := x) (by rw [cap16_hi]; decide)).symm
theorem cVs4 (μ : GM) (i x : Int) : cV 22 (gA μ 7 i x) = setA (cV 22 μ) 4 i x := by
  refine lv_ext (fun q => ?_) (fun q => rfl)
  match q with
  | 0 => exact (gA_nk μ i x (show (2 : Nat) ≠ 7 by decide)).trans (setA_ne (v := cV 22 μ) (j := 4) (q := 0) (i := i) (x := x) (by decide)).symm
  | 1 => exact (gA_nk μ i x (show (3 : Nat) ≠ 7 by decide)).trans (setA_ne (v := cV 22 μ) (j := 4) (q := 1) (i := i) (x := x) (by decide)).symm
  | 2 => exact (gA_nk μ i x (show (4 : Nat) ≠ 7 by decide)).trans (setA_ne (v := cV 22 μ) (j := 4) (q := 2) (i := i) (x := x) (by decide)).symm
  | 3 => exact (gA_nk μ i x (show (6 : Nat) ≠ 7 by decide)).trans (setA_ne (v := cV 22 μ) (j := 4) (q := 3) (i := i) (x := x) (by decide)).symm
  | 4 => exact funext fun i' => (gA_at μ 7 i i' x).trans (setA_at (v := cV 22 μ) (j := 4) (i := i) (x := x) rfl i').symm
  | 5 => exact (gA_nk μ i x (show (8 : Nat) ≠ 7 by decide)).trans (setA_ne (v := cV 22 μ) (j := 4) (q := 5) (i := i) (x := x) (by decide)).symm
  | 6 => exact (gA_nk μ i x (show (10 : Nat) ≠ 7 by decide)).trans (setA_ne (v := cV 22 μ) (j := 4) (q := 6) (i := i) (x := x) (by decide)).symm
  | 7 => exact (gA_nk μ i x (show (11 : Nat) ≠ 7 by decide)).trans (setA_ne (v := cV 22 μ) (j := 4) (q := 7) (i := i) (x := x) (by decide)).symm
  | 8 => exact (gA_nk μ i x (show (12 : Nat) ≠ 7 by decide)).trans (setA_ne (v := cV 22 μ) (j := 4) (q := 8) (i := i) (x := x) (by decide)).symm
  | 9 => exact (gA_nk μ i x (show (13 : Nat) ≠ 7 by decide)).trans (setA_ne (v := cV 22 μ) (j := 4) (q := 9) (i := i) (x := x) (by decide)).symm
  | 10 => exact (gA_nk μ i x (show (15 : Nat) ≠ 7 by decide)).trans (setA_ne (v := cV 22 μ) (j := 4) (q := 10) (i := i) (x := x) (by decide)).symm
  | 11 => exact (gA_nk μ i x (show (16 : Nat) ≠ 7 by decide)).trans (setA_ne (v := cV 22 μ) (j := 4) (q := 11) (i := i) (x := x) (by decide)).symm
  | 12 => exact (gA_nk μ i x (show (17 : Nat) ≠ 7 by decide)).trans (setA_ne (v := cV 22 μ) (j := 4) (q := 12) (i := i) (x := x) (by decide)).symm
  | 13 => exact (gA_nk μ i x (show (19 : Nat) ≠ 7 by decide)).trans (setA_ne (v := cV 22 μ) (j := 4) (q := 13) (i := i) (x := x) (by decide)).symm
  | 14 => exact (gA_nk μ i x (show (20 : Nat) ≠ 7 by decide)).trans (setA_ne (v := cV 22 μ) (j := 4) (q := 14) (i := i) (x := x) (by decide)).symm
  | 15 => exact (gA_nk μ i x (show (21 : Nat) ≠ 7 by decide)).trans (setA_ne (v := cV 22 μ) (j := 4) (q := 15) (i := i) (x := x) (by decide)).symm
  | q + 16 => exact (gA_nk μ i x (show (22 : Nat) ≠ 7 by decide)).trans (setA_ne (v := cV 22 μ) (j := 4) (q := q + 16) (i := i) (x := x) (by rw [cap16_hi]; decide)).symm
theorem cVs5 (μ : GM) (i x : Int) : cV 22 (gA μ 8 i x) = setA (cV 22 μ) 5 i x := by
  refine lv_ext (fun q => ?_) (fun q => rfl)
  match q with
  | 0 => exact (gA_nk μ i x (show (2 : Nat) ≠ 8 by decide)).trans (setA_ne (v := cV 22 μ) (j := 5) (q := 0) (i := i) (x := x) (by decide)).symm
  | 1 => exact (gA_nk μ i x (show (3 : Nat) ≠ 8 by decide)).trans (setA_ne (v := cV 22 μ) (j := 5) (q := 1) (i := i) (x := x) (by decide)).symm
  | 2 => exact (gA_nk μ i x (show (4 : Nat) ≠ 8 by decide)).trans (setA_ne (v := cV 22 μ) (j := 5) (q := 2) (i := i) (x := x) (by decide)).symm
  | 3 => exact (gA_nk μ i x (show (6 : Nat) ≠ 8 by decide)).trans (setA_ne (v := cV 22 μ) (j := 5) (q := 3) (i := i) (x := x) (by decide)).symm
  | 4 => exact (gA_nk μ i x (show (7 : Nat) ≠ 8 by decide)).trans (setA_ne (v := cV 22 μ) (j := 5) (q := 4) (i := i) (x := x) (by decide)).symm
  | 5 => exact funext fun i' => (gA_at μ 8 i i' x).trans (setA_at (v := cV 22 μ) (j := 5) (i := i) (x := x) rfl i').symm
  | 6 => exact (gA_nk μ i x (show (10 : Nat) ≠ 8 by decide)).trans (setA_ne (v := cV 22 μ) (j := 5) (q := 6) (i := i) (x := x) (by decide)).symm
  | 7 => exact (gA_nk μ i x (show (11 : Nat) ≠ 8 by decide)).trans (setA_ne (v := cV 22 μ) (j := 5) (q := 7) (i := i) (x := x) (by decide)).symm
  | 8 => exact (gA_nk μ i x (show (12 : Nat) ≠ 8 by decide)).trans (setA_ne (v := cV 22 μ) (j := 5) (q := 8) (i := i) (x := x) (by decide)).symm
  | 9 => exact (gA_nk μ i x (show (13 : Nat) ≠ 8 by decide)).trans (setA_ne (v := cV 22 μ) (j := 5) (q := 9) (i := i) (x := x) (by decide)).symm
  | 10 => exact (gA_nk μ i x (show (15 : Nat) ≠ 8 by decide)).trans (setA_ne (v := cV 22 μ) (j := 5) (q := 10) (i := i) (x := x) (by decide)).symm
  | 11 => exact (gA_nk μ i x (show (16 : Nat) ≠ 8 by decide)).trans (setA_ne (v := cV 22 μ) (j := 5) (q := 11) (i := i) (x := x) (by decide)).symm
  | 12 => exact (gA_nk μ i x (show (17 : Nat) ≠ 8 by decide)).trans (setA_ne (v := cV 22 μ) (j := 5) (q := 12) (i := i) (x := x) (by decide)).symm
  | 13 => exact (gA_nk μ i x (show (19 : Nat) ≠ 8 by decide)).trans (setA_ne (v := cV 22 μ) (j := 5) (q := 13) (i := i) (x := x) (by decide)).symm
  | 14 => exact (gA_nk μ i x (show (20 : Nat) ≠ 8 by decide)).trans (setA_ne (v := cV 22 μ) (j := 5) (q := 14) (i := i) (x := x) (by decide)).symm
  | 15 => exact (gA_nk μ i x (show (21 : Nat) ≠ 8 by decide)).trans (setA_ne (v := cV 22 μ) (j := 5) (q := 15) (i := i) (x := x) (by decide)).symm
  | q + 16 => exact (gA_nk μ i x (show (22 : Nat) ≠ 8 by decide)).trans (setA_ne (v := cV 22 μ) (j := 5) (q := q + 16) (i := i) (x := x) (by rw [cap16_hi]; decide)).symm
theorem cVs6 (μ : GM) (i x : Int) : cV 22 (gA μ 10 i x) = setA (cV 22 μ) 6 i x := by
  refine lv_ext (fun q => ?_) (fun q => rfl)
  match q with
  | 0 => exact (gA_nk μ i x (show (2 : Nat) ≠ 10 by decide)).trans (setA_ne (v := cV 22 μ) (j := 6) (q := 0) (i := i) (x := x) (by decide)).symm
  | 1 => exact (gA_nk μ i x (show (3 : Nat) ≠ 10 by decide)).trans (setA_ne (v := cV 22 μ) (j := 6) (q := 1) (i := i) (x := x) (by decide)).symm
  | 2 => exact (gA_nk μ i x (show (4 : Nat) ≠ 10 by decide)).trans (setA_ne (v := cV 22 μ) (j := 6) (q := 2) (i := i) (x := x) (by decide)).symm
  | 3 => exact (gA_nk μ i x (show (6 : Nat) ≠ 10 by decide)).trans (setA_ne (v := cV 22 μ) (j := 6) (q := 3) (i := i) (x := x) (by decide)).symm
  | 4 => exact (gA_nk μ i x (show (7 : Nat) ≠ 10 by decide)).trans (setA_ne (v := cV 22 μ) (j := 6) (q := 4) (i := i) (x := x) (by decide)).symm
  | 5 => exact (gA_nk μ i x (show (8 : Nat) ≠ 10 by decide)).trans (setA_ne (v := cV 22 μ) (j := 6) (q := 5) (i := i) (x := x) (by decide)).symm
  | 6 => exact funext fun i' => (gA_at μ 10 i i' x).trans (setA_at (v := cV 22 μ) (j := 6) (i := i) (x := x) rfl i').symm
  | 7 => exact (gA_nk μ i x (show (11 : Nat) ≠ 10 by decide)).trans (setA_ne (v := cV 22 μ) (j := 6) (q := 7) (i := i) (x := x) (by decide)).symm
  | 8 => exact (gA_nk μ i x (show (12 : Nat) ≠ 10 by decide)).trans (setA_ne (v := cV 22 μ) (j := 6) (q := 8) (i := i) (x := x) (by decide)).symm
  | 9 => exact (gA_nk μ i x (show (13 : Nat) ≠ 10 by decide)).trans (setA_ne (v := cV 22 μ) (j := 6) (q := 9) (i := i) (x := x) (by decide)).symm
  | 10 => exact (gA_nk μ i x (show (15 : Nat) ≠ 10 by decide)).trans (setA_ne (v := cV 22 μ) (j := 6) (q := 10) (i := i) (x := x) (by decide)).symm
  | 11 => exact (gA_nk μ i x (show (16 : Nat) ≠ 10 by decide)).trans (setA_ne (v := cV 22 μ) (j := 6) (q := 11) (i := i) (x := x) (by decide)).symm
  | 12 => exact (gA_nk μ i x (show (17 : Nat) ≠ 10 by decide)).trans (setA_ne (v := cV 22 μ) (j := 6) (q := 12) (i := i) (x := x) (by decide)).symm
  | 13 => exact (gA_nk μ i x (show (19 : Nat) ≠ 10 by decide)).trans (setA_ne (v := cV 22 μ) (j := 6) (q := 13) (i := i) (x := x) (by decide)).symm
  | 14 => exact (gA_nk μ i x (show (20 : Nat) ≠ 10 by decide)).trans (setA_ne (v := cV 22 μ) (j := 6) (q := 14) (i := i) (x := x) (by decide)).symm
  | 15 => exact (gA_nk μ i x (show (21 : Nat) ≠ 10 by decide)).trans (setA_ne (v := cV 22 μ) (j := 6) (q := 15) (i := i) (x := x) (by decide)).symm
  | q + 16 => exact (gA_nk μ i x (show (22 : Nat) ≠ 10 by decide)).trans (setA_ne (v := cV 22 μ) (j := 6) (q := q + 16) (i := i) (x := x) (by rw [cap16_hi]; decide)).symm
theorem cVs7 (μ : GM) (i x : Int) : cV 22 (gA μ 11 i x) = setA (cV 22 μ) 7 i x := by
  refine lv_ext (fun q => ?_) (fun q => rfl)
  match q with
  | 0 => exact (gA_nk μ i x (show (2 : Nat) ≠ 11 by decide)).trans (setA_ne (v := cV 22 μ) (j := 7) (q := 0) (i := i) (x := x) (by decide)).symm
  | 1 => exact (gA_nk μ i x (show (3 : Nat) ≠ 11 by decide)).trans (setA_ne (v := cV 22 μ) (j := 7) (q := 1) (i := i) (x := x) (by decide)).symm
  | 2 => exact (gA_nk μ i x (show (4 : Nat) ≠ 11 by decide)).trans (setA_ne (v := cV 22 μ) (j := 7) (q := 2) (i := i) (x := x) (by decide)).symm
  | 3 => exact (gA_nk μ i x (show (6 : Nat) ≠ 11 by decide)).trans (setA_ne (v := cV 22 μ) (j := 7) (q := 3) (i := i) (x := x) (by decide)).symm
  | 4 => exact (gA_nk μ i x (show (7 : Nat) ≠ 11 by decide)).trans (setA_ne (v := cV 22 μ) (j := 7) (q := 4) (i := i) (x := x) (by decide)).symm
  | 5 => exact (gA_nk μ i x (show (8 : Nat) ≠ 11 by decide)).trans (setA_ne (v := cV 22 μ) (j := 7) (q := 5) (i := i) (x := x) (by decide)).symm
  | 6 => exact (gA_nk μ i x (show (10 : Nat) ≠ 11 by decide)).trans (setA_ne (v := cV 22 μ) (j := 7) (q := 6) (i := i) (x := x) (by decide)).symm
  | 7 => exact funext fun i' => (gA_at μ 11 i i' x).trans (setA_at (v := cV 22 μ) (j := 7) (i := i) (x := x) rfl i').symm
  | 8 => exact (gA_nk μ i x (show (12 : Nat) ≠ 11 by decide)).trans (setA_ne (v := cV 22 μ) (j := 7) (q := 8) (i := i) (x := x) (by decide)).symm
  | 9 => exact (gA_nk μ i x (show (13 : Nat) ≠ 11 by decide)).trans (setA_ne (v := cV 22 μ) (j := 7) (q := 9) (i := i) (x := x) (by decide)).symm
  | 10 => exact (gA_nk μ i x (show (15 : Nat) ≠ 11 by decide)).trans (setA_ne (v := cV 22 μ) (j := 7) (q := 10) (i := i) (x := x) (by decide)).symm
  | 11 => exact (gA_nk μ i x (show (16 : Nat) ≠ 11 by decide)).trans (setA_ne (v := cV 22 μ) (j := 7) (q := 11) (i := i) (x := x) (by decide)).symm
  | 12 => exact (gA_nk μ i x (show (17 : Nat) ≠ 11 by decide)).trans (setA_ne (v := cV 22 μ) (j := 7) (q := 12) (i := i) (x := x) (by decide)).symm
  | 13 => exact (gA_nk μ i x (show (19 : Nat) ≠ 11 by decide)).trans (setA_ne (v := cV 22 μ) (j := 7) (q := 13) (i := i) (x := x) (by decide)).symm
  | 14 => exact (gA_nk μ i x (show (20 : Nat) ≠ 11 by decide)).trans (setA_ne (v := cV 22 μ) (j := 7) (q := 14) (i := i) (x := x) (by decide)).symm
  | 15 => exact (gA_nk μ i x (show (21 : Nat) ≠ 11 by decide)).trans (setA_ne (v := cV 22 μ) (j := 7) (q := 15) (i := i) (x := x) (by decide)).symm
  | q + 16 => exact (gA_nk μ i x (show (22 : Nat) ≠ 11 by decide)).trans (setA_ne (v := cV 22 μ) (j := 7) (q := q + 16) (i := i) (x := x) (by rw [cap16_hi]; decide)).symm
theorem cVs8 (μ : GM) (i x : Int) : cV 22 (gA μ 12 i x) = setA (cV 22 μ) 8 i x := by
  refine lv_ext (fun q => ?_) (fun q => rfl)
  match q with
  | 0 => exact (gA_nk μ i x (show (2 : Nat) ≠ 12 by decide)).trans (setA_ne (v := cV 22 μ) (j := 8) (q := 0) (i := i) (x := x) (by decide)).symm
  | 1 => exact (gA_nk μ i x (show (3 : Nat) ≠ 12 by decide)).trans (setA_ne (v := cV 22 μ) (j := 8) (q := 1) (i := i) (x := x) (by decide)).symm
  | 2 => exact (gA_nk μ i x (show (4 : Nat) ≠ 12 by decide)).trans (setA_ne (v := cV 22 μ) (j := 8) (q := 2) (i := i) (x := x) (by decide)).symm
  | 3 => exact (gA_nk μ i x (show (6 : Nat) ≠ 12 by decide)).trans (setA_ne (v := cV 22 μ) (j := 8) (q := 3) (i := i) (x := x) (by decide)).symm
  | 4 => exact (gA_nk μ i x (show (7 : Nat) ≠ 12 by decide)).trans (setA_ne (v := cV 22 μ) (j := 8) (q := 4) (i := i) (x := x) (by decide)).symm
  | 5 => exact (gA_nk μ i x (show (8 : Nat) ≠ 12 by decide)).trans (setA_ne (v := cV 22 μ) (j := 8) (q := 5) (i := i) (x := x) (by decide)).symm
  | 6 => exact (gA_nk μ i x (show (10 : Nat) ≠ 12 by decide)).trans (setA_ne (v := cV 22 μ) (j := 8) (q := 6) (i := i) (x := x) (by decide)).symm
  | 7 => exact (gA_nk μ i x (show (11 : Nat) ≠ 12 by decide)).trans (setA_ne (v := cV 22 μ) (j := 8) (q := 7) (i := i) (x := x) (by decide)).symm
  | 8 => exact funext fun i' => (gA_at μ 12 i i' x).trans (setA_at (v := cV 22 μ) (j := 8) (i := i) (x := x) rfl i').symm
  | 9 => exact (gA_nk μ i x (show (13 : Nat) ≠ 12 by decide)).trans (setA_ne (v := cV 22 μ) (j := 8) (q := 9) (i := i) (x := x) (by decide)).symm
  | 10 => exact (gA_nk μ i x (show (15 : Nat) ≠ 12 by decide)).trans (setA_ne (v := cV 22 μ) (j := 8) (q := 10) (i := i) (x := x) (by decide)).symm
  | 11 => exact (gA_nk μ i x (show (16 : Nat) ≠ 12 by decide)).trans (setA_ne (v := cV 22 μ) (j := 8) (q := 11) (i := i) (x := x) (by decide)).symm
  | 12 => exact (gA_nk μ i x (show (17 : Nat) ≠ 12 by decide)).trans (setA_ne (v := cV 22 μ) (j := 8) (q := 12) (i := i) (x := x) (by decide)).symm
  | 13 => exact (gA_nk μ i x (show (19 : Nat) ≠ 12 by decide)).trans (setA_ne (v := cV 22 μ) (j := 8) (q := 13) (i := i) (x := x) (by decide)).symm
  | 14 => exact (gA_nk μ i x (show (20 : Nat) ≠ 12 by decide)).trans (setA_ne (v := cV 22 μ) (j := 8) (q := 14) (i := i) (x := x) (by decide)).symm
  | 15 => exact (gA_nk μ i x (show (21 : Nat) ≠ 12 by decide)).trans (setA_ne (v := cV 22 μ) (j := 8) (q := 15) (i := i) (x := x) (by decide)).symm
  | q + 16 => exact (gA_nk μ i x (show (22 : Nat) ≠ 12 by decide)).trans (setA_ne (v := cV 22 μ) (j := 8) (q := q + 16) (i := i) (x := x) (by rw [cap16_hi]; decide)).symm
theorem cVs9 (μ : GM) (i x : Int) : cV 22 (gA μ 13 i x) = setA (cV 22 μ) 9 i x := by
  refine lv_ext (fun q => ?_) (fun q => rfl)
  match q with
  | 0 => exact (gA_nk μ i x (show (2 : Nat) ≠ 13 by decide)).trans (setA_ne (v := cV 22 μ) (j := 9) (q := 0) (i := i) (x := x) (by decide)).symm
  | 1 => exact (gA_nk μ i x (show (3 : Nat) ≠ 13 by decide)).trans (setA_ne (v := cV 22 μ) (j := 9) (q := 1) (i := i) (x := x) (by decide)).symm
  | 2 => exact (gA_nk μ i x (show (4 : Nat) ≠ 13 by decide)).trans (setA_ne (v := cV 22 μ) (j := 9) (q := 2) (i := i) (x := x) (by decide)).symm
  | 3 => exact (gA_nk μ i x (show (6 : Nat) ≠ 13 by decide)).trans (setA_ne (v := cV 22 μ) (j := 9) (q := 3) (i := i) (x := x) (by decide)).symm
  | 4 => exact (gA_nk μ i x (show (7 : Nat) ≠ 13 by decide)).trans (setA_ne (v := cV 22 μ) (j := 9) (q := 4) (i := i) (x := x) (by decide)).symm
  | 5 => exact (gA_nk μ i x (show (8 : Nat) ≠ 13 by decide)).trans (setA_ne (v := cV 22 μ) (j := 9) (q := 5) (i := i) (x := x) (by decide)).symm
  | 6 => exact (gA_nk μ i x (show (10 : Nat) ≠ 13 by decide)).trans (setA_ne (v := cV 22 μ) (j := 9) (q := 6) (i := i) (x := x) (by decide)).symm
  | 7 => exact (gA_nk μ i x (show (11 : Nat) ≠ 13 by decide)).trans (setA_ne (v := cV 22 μ) (j := 9) (q := 7) (i := i) (x := x) (by decide)).symm
  | 8 => exact (gA_nk μ i x (show (12 : Nat) ≠ 13 by decide)).trans (setA_ne (v := cV 22 μ) (j := 9) (q := 8) (i := i) (x := x) (by decide)).symm
  | 9 => exact funext fun i' => (gA_at μ 13 i i' x).trans (setA_at (v := cV 22 μ) (j := 9) (i := i) (x := x) rfl i').symm
  | 10 => exact (gA_nk μ i x (show (15 : Nat) ≠ 13 by decide)).trans (setA_ne (v := cV 22 μ) (j := 9) (q := 10) (i := i) (x := x) (by decide)).symm
  | 11 => exact (gA_nk μ i x (show (16 : Nat) ≠ 13 by decide)).trans (setA_ne (v := cV 22 μ) (j := 9) (q := 11) (i := i) (x := x) (by decide)).symm
  | 12 => exact (gA_nk μ i x (show (17 : Nat) ≠ 13 by decide)).trans (setA_ne (v := cV 22 μ) (j := 9) (q := 12) (i := i) (x := x) (by decide)).symm
  | 13 => exact (gA_nk μ i x (show (19 : Nat) ≠ 13 by decide)).trans (setA_ne (v := cV 22 μ) (j := 9) (q := 13) (i := i) (x := x) (by decide)).symm
  | 14 => exact (gA_nk μ i x (show (20 : Nat) ≠ 13 by decide)).trans (setA_ne (v := cV 22 μ) (j := 9) (q := 14) (i := i) (x := x) (by decide)).symm
  | 15 => exact (gA_nk μ i x (show (21 : Nat) ≠ 13 by decide)).trans (setA_ne (v := cV 22 μ) (j := 9) (q := 15) (i := i) (x := x) (by decide)).symm
  | q + 16 => exact (gA_nk μ i x (show (22 : Nat) ≠ 13 by decide)).trans (setA_ne (v := cV 22 μ) (j := 9) (q := q + 16) (i := i) (x := x) (by rw [cap16_hi]; decide)).symm
theorem cVs10 (μ : GM) (i x : Int) : cV 22 (gA μ 15 i x) = setA (cV 22 μ) 10 i x := by
  refine lv_ext (fun q => ?_) (fun q => rfl)
  match q with
  | 0 => exact (gA_nk μ i x (show (2 : Nat) ≠ 15 by decide)).trans (setA_ne (v := cV 22 μ) (j := 10) (q := 0) (i := i) (x := x) (by decide)).symm
  | 1 => exact (gA_nk μ i x (show (3 : Nat) ≠ 15 by decide)).trans (setA_ne (v := cV 22 μ) (j := 10) (q := 1) (i := i) (x := x) (by decide)).symm
  | 2 => exact (gA_nk μ i x (show (4 : Nat) ≠ 15 by decide)).trans (setA_ne (v := cV 22 μ) (j := 10) (q := 2) (i := i) (x := x) (by decide)).symm
  | 3 => exact (gA_nk μ i x (show (6 : Nat) ≠ 15 by decide)).trans (setA_ne (v := cV 22 μ) (j := 10) (q := 3) (i := i) (x := x) (by decide)).symm
  | 4 => exact (gA_nk μ i x (show (7 : Nat) ≠ 15 by decide)).trans (setA_ne (v := cV 22 μ) (j := 10) (q := 4) (i := i) (x := x) (by decide)).symm
  | 5 => exact (gA_nk μ i x (show (8 : Nat) ≠ 15 by decide)).trans (setA_ne (v := cV 22 μ) (j := 10) (q := 5) (i := i) (x := x) (by decide)).symm
  | 6 => exact (gA_nk μ i x (show (10 : Nat) ≠ 15 by decide)).trans (setA_ne (v := cV 22 μ) (j := 10) (q := 6) (i := i) (x := x) (by decide)).symm
  | 7 => exact (gA_nk μ i x (show (11 : Nat) ≠ 15 by decide)).trans (setA_ne (v := cV 22 μ) (j := 10) (q := 7) (i := i) (x := x) (by decide)).symm
  | 8 => exact (gA_nk μ i x (show (12 : Nat) ≠ 15 by decide)).trans (setA_ne (v := cV 22 μ) (j := 10) (q := 8) (i := i) (x := x) (by decide)).symm
  | 9 => exact (gA_nk μ i x (show (13 : Nat) ≠ 15 by decide)).trans (setA_ne (v := cV 22 μ) (j := 10) (q := 9) (i := i) (x := x) (by decide)).symm
  | 10 => exact funext fun i' => (gA_at μ 15 i i' x).trans (setA_at (v := cV 22 μ) (j := 10) (i := i) (x := x) rfl i').symm
  | 11 => exact (gA_nk μ i x (show (16 : Nat) ≠ 15 by decide)).trans (setA_ne (v := cV 22 μ) (j := 10) (q := 11) (i := i) (x := x) (by decide)).symm
  | 12 => exact (gA_nk μ i x (show (17 : Nat) ≠ 15 by decide)).trans (setA_ne (v := cV 22 μ) (j := 10) (q := 12) (i := i) (x := x) (by decide)).symm
  | 13 => exact (gA_nk μ i x (show (19 : Nat) ≠ 15 by decide)).trans (setA_ne (v := cV 22 μ) (j := 10) (q := 13) (i := i) (x := x) (by decide)).symm
  | 14 => exact (gA_nk μ i x (show (20 : Nat) ≠ 15 by decide)).trans (setA_ne (v := cV 22 μ) (j := 10) (q := 14) (i := i) (x := x) (by decide)).symm
  | 15 => exact (gA_nk μ i x (show (21 : Nat) ≠ 15 by decide)).trans (setA_ne (v := cV 22 μ) (j := 10) (q := 15) (i := i) (x := x) (by decide)).symm
  | q + 16 => exact (gA_nk μ i x (show (22 : Nat) ≠ 15 by decide)).trans (setA_ne (v := cV 22 μ) (j := 10) (q := q + 16) (i := i) (x := x) (by rw [cap16_hi]; decide)).symm
theorem cVs11 (μ : GM) (i x : Int) : cV 22 (gA μ 16 i x) = setA (cV 22 μ) 11 i x := by
  refine lv_ext (fun q => ?_) (fun q => rfl)
  match q with
  | 0 => exact (gA_nk μ i x (show (2 : Nat) ≠ 16 by decide)).trans (setA_ne (v := cV 22 μ) (j := 11) (q := 0) (i := i) (x := x) (by decide)).symm
  | 1 => exact (gA_nk μ i x (show (3 : Nat) ≠ 16 by decide)).trans (setA_ne (v := cV 22 μ) (j := 11) (q := 1) (i := i) (x := x) (by decide)).symm
  | 2 => exact (gA_nk μ i x (show (4 : Nat) ≠ 16 by decide)).trans (setA_ne (v := cV 22 μ) (j := 11) (q := 2) (i := i) (x := x) (by decide)).symm
  | 3 => exact (gA_nk μ i x (show (6 : Nat) ≠ 16 by decide)).trans (setA_ne (v := cV 22 μ) (j := 11) (q := 3) (i := i) (x := x) (by decide)).symm
  | 4 => exact (gA_nk μ i x (show (7 : Nat) ≠ 16 by decide)).trans (setA_ne (v := cV 22 μ) (j := 11) (q := 4) (i := i) (x := x) (by decide)).symm
  | 5 => exact (gA_nk μ i x (show (8 : Nat) ≠ 16 by decide)).trans (setA_ne (v := cV 22 μ) (j := 11) (q := 5) (i := i) (x := x) (by decide)).symm
  | 6 => exact (gA_nk μ i x (show (10 : Nat) ≠ 16 by decide)).trans (setA_ne (v := cV 22 μ) (j := 11) (q := 6) (i := i) (x := x) (by decide)).symm
  | 7 => exact (gA_nk μ i x (show (11 : Nat) ≠ 16 by decide)).trans (setA_ne (v := cV 22 μ) (j := 11) (q := 7) (i := i) (x := x) (by decide)).symm
  | 8 => exact (gA_nk μ i x (show (12 : Nat) ≠ 16 by decide)).trans (setA_ne (v := cV 22 μ) (j := 11) (q := 8) (i := i) (x := x) (by decide)).symm
  | 9 => exact (gA_nk μ i x (show (13 : Nat) ≠ 16 by decide)).trans (setA_ne (v := cV 22 μ) (j := 11) (q := 9) (i := i) (x := x) (by decide)).symm
  | 10 => exact (gA_nk μ i x (show (15 : Nat) ≠ 16 by decide)).trans (setA_ne (v := cV 22 μ) (j := 11) (q := 10) (i := i) (x := x) (by decide)).symm
  | 11 => exact funext fun i' => (gA_at μ 16 i i' x).trans (setA_at (v := cV 22 μ) (j := 11) (i := i) (x := x) rfl i').symm
  | 12 => exact (gA_nk μ i x (show (17 : Nat) ≠ 16 by decide)).trans (setA_ne (v := cV 22 μ) (j := 11) (q := 12) (i := i) (x := x) (by decide)).symm
  | 13 => exact (gA_nk μ i x (show (19 : Nat) ≠ 16 by decide)).trans (setA_ne (v := cV 22 μ) (j := 11) (q := 13) (i := i) (x := x) (by decide)).symm
  | 14 => exact (gA_nk μ i x (show (20 : Nat) ≠ 16 by decide)).trans (setA_ne (v := cV 22 μ) (j := 11) (q := 14) (i := i) (x := x) (by decide)).symm
  | 15 => exact (gA_nk μ i x (show (21 : Nat) ≠ 16 by decide)).trans (setA_ne (v := cV 22 μ) (j := 11) (q := 15) (i := i) (x := x) (by decide)).symm
  | q + 16 => exact (gA_nk μ i x (show (22 : Nat) ≠ 16 by decide)).trans (setA_ne (v := cV 22 μ) (j := 11) (q := q + 16) (i := i) (x := x) (by rw [cap16_hi]; decide)).symm
theorem cVs12 (μ : GM) (i x : Int) : cV 22 (gA μ 17 i x) = setA (cV 22 μ) 12 i x := by
  refine lv_ext (fun q => ?_) (fun q => rfl)
  match q with
  | 0 => exact (gA_nk μ i x (show (2 : Nat) ≠ 17 by decide)).trans (setA_ne (v := cV 22 μ) (j := 12) (q := 0) (i := i) (x := x) (by decide)).symm
  | 1 => exact (gA_nk μ i x (show (3 : Nat) ≠ 17 by decide)).trans (setA_ne (v := cV 22 μ) (j := 12) (q := 1) (i := i) (x := x) (by decide)).symm
  | 2 => exact (gA_nk μ i x (show (4 : Nat) ≠ 17 by decide)).trans (setA_ne (v := cV 22 μ) (j := 12) (q := 2) (i := i) (x := x) (by decide)).symm
  | 3 => exact (gA_nk μ i x (show (6 : Nat) ≠ 17 by decide)).trans (setA_ne (v := cV 22 μ) (j := 12) (q := 3) (i := i) (x := x) (by decide)).symm
  | 4 => exact (gA_nk μ i x (show (7 : Nat) ≠ 17 by decide)).trans (setA_ne (v := cV 22 μ) (j := 12) (q := 4) (i := i) (x := x) (by decide)).symm
  | 5 => exact (gA_nk μ i x (show (8 : Nat) ≠ 17 by decide)).trans (setA_ne (v := cV 22 μ) (j := 12) (q := 5) (i := i) (x := x) (by decide)).symm
  | 6 => exact (gA_nk μ i x (show (10 : Nat) ≠ 17 by decide)).trans (setA_ne (v := cV 22 μ) (j := 12) (q := 6) (i := i) (x := x) (by decide)).symm
  | 7 => exact (gA_nk μ i x (show (11 : Nat) ≠ 17 by decide)).trans (setA_ne (v := cV 22 μ) (j := 12) (q := 7) (i := i) (x := x) (by decide)).symm
  | 8 => exact (gA_nk μ i x (show (12 : Nat) ≠ 17 by decide)).trans (setA_ne (v := cV 22 μ) (j := 12) (q := 8) (i := i) (x := x) (by decide)).symm
  | 9 => exact (gA_nk μ i x (show (13 : Nat) ≠ 17 by decide)).trans (setA_ne (v := cV 22 μ) (j := 12) (q := 9) (i := i) (x := x) (by decide)).symm
  | 10 => exact (gA_nk μ i x (show (15 : Nat) ≠ 17 by decide)).trans (setA_ne (v := cV 22 μ) (j := 12) (q := 10) (i := i) (x := x) (by decide)).symm
  | 11 => exact (gA_nk μ i x (show (16 : Nat) ≠ 17 by decide)).trans (setA_ne (v := cV 22 μ) (j := 12) (q := 11) (i := i) (x := x) (by decide)).symm
  | 12 => exact funext fun i' => (gA_at μ 17 i i' x).trans (setA_at (v := cV 22 μ) (j := 12) (i := i) (x := x) rfl i').symm
  | 13 => exact (gA_nk μ i x (show (19 : Nat) ≠ 17 by decide)).trans (setA_ne (v := cV 22 μ) (j := 12) (q := 13) (i := i) (x := x) (by decide)).symm
  | 14 => exact (gA_nk μ i x (show (20 : Nat) ≠ 17 by decide)).trans (setA_ne (v := cV 22 μ) (j := 12) (q := 14) (i := i) (x := x) (by decide)).symm
  | 15 => exact (gA_nk μ i x (show (21 : Nat) ≠ 17 by decide)).trans (setA_ne (v := cV 22 μ) (j := 12) (q := 15) (i := i) (x := x) (by decide)).symm
  | q + 16 => exact (gA_nk μ i x (show (22 : Nat) ≠ 17 by decide)).trans (setA_ne (v := cV 22 μ) (j := 12) (q := q + 16) (i := i) (x := x) (by rw [cap16_hi]; decide)).symm
theorem cVs13 (μ : GM) (i x : Int) : cV 22 (gA μ 19 i x) = setA (cV 22 μ) 13 i x := by
  refine lv_ext (fun q => ?_) (fun q => rfl)
  match q with
  | 0 => exact (gA_nk μ i x (show (2 : Nat) ≠ 19 by decide)).trans (setA_ne (v := cV 22 μ) (j := 13) (q := 0) (i := i) (x := x) (by decide)).symm
  | 1 => exact (gA_nk μ i x (show (3 : Nat) ≠ 19 by decide)).trans (setA_ne (v := cV 22 μ) (j := 13) (q := 1) (i := i) (x := x) (by decide)).symm
  | 2 => exact (gA_nk μ i x (show (4 : Nat) ≠ 19 by decide)).trans (setA_ne (v := cV 22 μ) (j := 13) (q := 2) (i := i) (x := x) (by decide)).symm
  | 3 => exact (gA_nk μ i x (show (6 : Nat) ≠ 19 by decide)).trans (setA_ne (v := cV 22 μ) (j := 13) (q := 3) (i := i) (x := x) (by decide)).symm
  | 4 => exact (gA_nk μ i x (show (7 : Nat) ≠ 19 by decide)).trans (setA_ne (v := cV 22 μ) (j := 13) (q := 4) (i := i) (x := x) (by decide)).symm
  | 5 => exact (gA_nk μ i x (show (8 : Nat) ≠ 19 by decide)).trans (setA_ne (v := cV 22 μ) (j := 13) (q := 5) (i := i) (x := x) (by decide)).symm
  | 6 => exact (gA_nk μ i x (show (10 : Nat) ≠ 19 by decide)).trans (setA_ne (v := cV 22 μ) (j := 13) (q := 6) (i := i) (x := x) (by decide)).symm
  | 7 => exact (gA_nk μ i x (show (11 : Nat) ≠ 19 by decide)).trans (setA_ne (v := cV 22 μ) (j := 13) (q := 7) (i := i) (x := x) (by decide)).symm
  | 8 => exact (gA_nk μ i x (show (12 : Nat) ≠ 19 by decide)).trans (setA_ne (v := cV 22 μ) (j := 13) (q := 8) (i := i) (x := x) (by decide)).symm
  | 9 => exact (gA_nk μ i x (show (13 : Nat) ≠ 19 by decide)).trans (setA_ne (v := cV 22 μ) (j := 13) (q := 9) (i := i) (x := x) (by decide)).symm
  | 10 => exact (gA_nk μ i x (show (15 : Nat) ≠ 19 by decide)).trans (setA_ne (v := cV 22 μ) (j := 13) (q := 10) (i := i) (x := x) (by decide)).symm
  | 11 => exact (gA_nk μ i x (show (16 : Nat) ≠ 19 by decide)).trans (setA_ne (v := cV 22 μ) (j := 13) (q := 11) (i := i) (x := x) (by decide)).symm
  | 12 => exact (gA_nk μ i x (show (17 : Nat) ≠ 19 by decide)).trans (setA_ne (v := cV 22 μ) (j := 13) (q := 12) (i := i) (x := x) (by decide)).symm
  | 13 => exact funext fun i' => (gA_at μ 19 i i' x).trans (setA_at (v := cV 22 μ) (j := 13) (i := i) (x := x) rfl i').symm
  | 14 => exact (gA_nk μ i x (show (20 : Nat) ≠ 19 by decide)).trans (setA_ne (v := cV 22 μ) (j := 13) (q := 14) (i := i) (x := x) (by decide)).symm
  | 15 => exact (gA_nk μ i x (show (21 : Nat) ≠ 19 by decide)).trans (setA_ne (v := cV 22 μ) (j := 13) (q := 15) (i := i) (x := x) (by decide)).symm
  | q + 16 => exact (gA_nk μ i x (show (22 : Nat) ≠ 19 by decide)).trans (setA_ne (v := cV 22 μ) (j := 13) (q := q + 16) (i := i) (x := x) (by rw [cap16_hi]; decide)).symm
theorem cVs14 (μ : GM) (i x : Int) : cV 22 (gA μ 20 i x) = setA (cV 22 μ) 14 i x := by
  refine lv_ext (fun q => ?_) (fun q => rfl)
  match q with
  | 0 => exact (gA_nk μ i x (show (2 : Nat) ≠ 20 by decide)).trans (setA_ne (v := cV 22 μ) (j := 14) (q := 0) (i := i) (x := x) (by decide)).symm
  | 1 => exact (gA_nk μ i x (show (3 : Nat) ≠ 20 by decide)).trans (setA_ne (v := cV 22 μ) (j := 14) (q := 1) (i := i) (x := x) (by decide)).symm
  | 2 => exact (gA_nk μ i x (show (4 : Nat) ≠ 20 by decide)).trans (setA_ne (v := cV 22 μ) (j := 14) (q := 2) (i := i) (x := x) (by decide)).symm
  | 3 => exact (gA_nk μ i x (show (6 : Nat) ≠ 20 by decide)).trans (setA_ne (v := cV 22 μ) (j := 14) (q := 3) (i := i) (x := x) (by decide)).symm
  | 4 => exact (gA_nk μ i x (show (7 : Nat) ≠ 20 by decide)).trans (setA_ne (v := cV 22 μ) (j := 14) (q := 4) (i := i) (x := x) (by decide)).symm
  | 5 => exact (gA_nk μ i x (show (8 : Nat) ≠ 20 by decide)).trans (setA_ne (v := cV 22 μ) (j := 14) (q := 5) (i := i) (x := x) (by decide)).symm
  | 6 => exact (gA_nk μ i x (show (10 : Nat) ≠ 20 by decide)).trans (setA_ne (v := cV 22 μ) (j := 14) (q := 6) (i := i) (x := x) (by decide)).symm
  | 7 => exact (gA_nk μ i x (show (11 : Nat) ≠ 20 by decide)).trans (setA_ne (v := cV 22 μ) (j := 14) (q := 7) (i := i) (x := x) (by decide)).symm
  | 8 => exact (gA_nk μ i x (show (12 : Nat) ≠ 20 by decide)).trans (setA_ne (v := cV 22 μ) (j := 14) (q := 8) (i := i) (x := x) (by decide)).symm
  | 9 => exact (gA_nk μ i x (show (13 : Nat) ≠ 20 by decide)).trans (setA_ne (v := cV 22 μ) (j := 14) (q := 9) (i := i) (x := x) (by decide)).symm
  | 10 => exact (gA_nk μ i x (show (15 : Nat) ≠ 20 by decide)).trans (setA_ne (v := cV 22 μ) (j := 14) (q := 10) (i := i) (x := x) (by decide)).symm
  | 11 => exact (gA_nk μ i x (show (16 : Nat) ≠ 20 by decide)).trans (setA_ne (v := cV 22 μ) (j := 14) (q := 11) (i := i) (x := x) (by decide)).symm
  | 12 => exact (gA_nk μ i x (show (17 : Nat) ≠ 20 by decide)).trans (setA_ne (v := cV 22 μ) (j := 14) (q := 12) (i := i) (x := x) (by decide)).symm
  | 13 => exact (gA_nk μ i x (show (19 : Nat) ≠ 20 by decide)).trans (setA_ne (v := cV 22 μ) (j := 14) (q := 13) (i := i) (x := x) (by decide)).symm
  | 14 => exact funext fun i' => (gA_at μ 20 i i' x).trans (setA_at (v := cV 22 μ) (j := 14) (i := i) (x := x) rfl i').symm
  | 15 => exact (gA_nk μ i x (show (21 : Nat) ≠ 20 by decide)).trans (setA_ne (v := cV 22 μ) (j := 14) (q := 15) (i := i) (x := x) (by decide)).symm
  | q + 16 => exact (gA_nk μ i x (show (22 : Nat) ≠ 20 by decide)).trans (setA_ne (v := cV 22 μ) (j := 14) (q := q + 16) (i := i) (x := x) (by rw [cap16_hi]; decide)).symm
theorem cVs15 (μ : GM) (i x : Int) : cV 22 (gA μ 21 i x) = setA (cV 22 μ) 15 i x := by
  refine lv_ext (fun q => ?_) (fun q => rfl)
  match q with
  | 0 => exact (gA_nk μ i x (show (2 : Nat) ≠ 21 by decide)).trans (setA_ne (v := cV 22 μ) (j := 15) (q := 0) (i := i) (x := x) (by decide)).symm
  | 1 => exact (gA_nk μ i x (show (3 : Nat) ≠ 21 by decide)).trans (setA_ne (v := cV 22 μ) (j := 15) (q := 1) (i := i) (x := x) (by decide)).symm
  | 2 => exact (gA_nk μ i x (show (4 : Nat) ≠ 21 by decide)).trans (setA_ne (v := cV 22 μ) (j := 15) (q := 2) (i := i) (x := x) (by decide)).symm
  | 3 => exact (gA_nk μ i x (show (6 : Nat) ≠ 21 by decide)).trans (setA_ne (v := cV 22 μ) (j := 15) (q := 3) (i := i) (x := x) (by decide)).symm
  | 4 => exact (gA_nk μ i x (show (7 : Nat) ≠ 21 by decide)).trans (setA_ne (v := cV 22 μ) (j := 15) (q := 4) (i := i) (x := x) (by decide)).symm
  | 5 => exact (gA_nk μ i x (show (8 : Nat) ≠ 21 by decide)).trans (setA_ne (v := cV 22 μ) (j := 15) (q := 5) (i := i) (x := x) (by decide)).symm
  | 6 => exact (gA_nk μ i x (show (10 : Nat) ≠ 21 by decide)).trans (setA_ne (v := cV 22 μ) (j := 15) (q := 6) (i := i) (x := x) (by decide)).symm
  | 7 => exact (gA_nk μ i x (show (11 : Nat) ≠ 21 by decide)).trans (setA_ne (v := cV 22 μ) (j := 15) (q := 7) (i := i) (x := x) (by decide)).symm
  | 8 => exact (gA_nk μ i x (show (12 : Nat) ≠ 21 by decide)).trans (setA_ne (v := cV 22 μ) (j := 15) (q := 8) (i := i) (x := x) (by decide)).symm
  | 9 => exact (gA_nk μ i x (show (13 : Nat) ≠ 21 by decide)).trans (setA_ne (v := cV 22 μ) (j := 15) (q := 9) (i := i) (x := x) (by decide)).symm
  | 10 => exact (gA_nk μ i x (show (15 : Nat) ≠ 21 by decide)).trans (setA_ne (v := cV 22 μ) (j := 15) (q := 10) (i := i) (x := x) (by decide)).symm
  | 11 => exact (gA_nk μ i x (show (16 : Nat) ≠ 21 by decide)).trans (setA_ne (v := cV 22 μ) (j := 15) (q := 11) (i := i) (x := x) (by decide)).symm
  | 12 => exact (gA_nk μ i x (show (17 : Nat) ≠ 21 by decide)).trans (setA_ne (v := cV 22 μ) (j := 15) (q := 12) (i := i) (x := x) (by decide)).symm
  | 13 => exact (gA_nk μ i x (show (19 : Nat) ≠ 21 by decide)).trans (setA_ne (v := cV 22 μ) (j := 15) (q := 13) (i := i) (x := x) (by decide)).symm
  | 14 => exact (gA_nk μ i x (show (20 : Nat) ≠ 21 by decide)).trans (setA_ne (v := cV 22 μ) (j := 15) (q := 14) (i := i) (x := x) (by decide)).symm
  | 15 => exact funext fun i' => (gA_at μ 21 i i' x).trans (setA_at (v := cV 22 μ) (j := 15) (i := i) (x := x) rfl i').symm
  | q + 16 => exact (gA_nk μ i x (show (22 : Nat) ≠ 21 by decide)).trans (setA_ne (v := cV 22 μ) (j := 15) (q := q + 16) (i := i) (x := x) (by rw [cap16_hi]; decide)).symm
theorem cVs16 (μ : GM) (i x : Int) : cV 22 (gA μ 22 i x) = setA (cV 22 μ) 16 i x := by
  refine lv_ext (fun q => ?_) (fun q => rfl)
  match q with
  | 0 => exact (gA_nk μ i x (show (2 : Nat) ≠ 22 by decide)).trans (setA_ne (v := cV 22 μ) (j := 16) (q := 0) (i := i) (x := x) (by decide)).symm
  | 1 => exact (gA_nk μ i x (show (3 : Nat) ≠ 22 by decide)).trans (setA_ne (v := cV 22 μ) (j := 16) (q := 1) (i := i) (x := x) (by decide)).symm
  | 2 => exact (gA_nk μ i x (show (4 : Nat) ≠ 22 by decide)).trans (setA_ne (v := cV 22 μ) (j := 16) (q := 2) (i := i) (x := x) (by decide)).symm
  | 3 => exact (gA_nk μ i x (show (6 : Nat) ≠ 22 by decide)).trans (setA_ne (v := cV 22 μ) (j := 16) (q := 3) (i := i) (x := x) (by decide)).symm
  | 4 => exact (gA_nk μ i x (show (7 : Nat) ≠ 22 by decide)).trans (setA_ne (v := cV 22 μ) (j := 16) (q := 4) (i := i) (x := x) (by decide)).symm
  | 5 => exact (gA_nk μ i x (show (8 : Nat) ≠ 22 by decide)).trans (setA_ne (v := cV 22 μ) (j := 16) (q := 5) (i := i) (x := x) (by decide)).symm
  | 6 => exact (gA_nk μ i x (show (10 : Nat) ≠ 22 by decide)).trans (setA_ne (v := cV 22 μ) (j := 16) (q := 6) (i := i) (x := x) (by decide)).symm
  | 7 => exact (gA_nk μ i x (show (11 : Nat) ≠ 22 by decide)).trans (setA_ne (v := cV 22 μ) (j := 16) (q := 7) (i := i) (x := x) (by decide)).symm
  | 8 => exact (gA_nk μ i x (show (12 : Nat) ≠ 22 by decide)).trans (setA_ne (v := cV 22 μ) (j := 16) (q := 8) (i := i) (x := x) (by decide)).symm
  | 9 => exact (gA_nk μ i x (show (13 : Nat) ≠ 22 by decide)).trans (setA_ne (v := cV 22 μ) (j := 16) (q := 9) (i := i) (x := x) (by decide)).symm
  | 10 => exact (gA_nk μ i x (show (15 : Nat) ≠ 22 by decide)).trans (setA_ne (v := cV 22 μ) (j := 16) (q := 10) (i := i) (x := x) (by decide)).symm
  | 11 => exact (gA_nk μ i x (show (16 : Nat) ≠ 22 by decide)).trans (setA_ne (v := cV 22 μ) (j := 16) (q := 11) (i := i) (x := x) (by decide)).symm
  | 12 => exact (gA_nk μ i x (show (17 : Nat) ≠ 22 by decide)).trans (setA_ne (v := cV 22 μ) (j := 16) (q := 12) (i := i) (x := x) (by decide)).symm
  | 13 => exact (gA_nk μ i x (show (19 : Nat) ≠ 22 by decide)).trans (setA_ne (v := cV 22 μ) (j := 16) (q := 13) (i := i) (x := x) (by decide)).symm
  | 14 => exact (gA_nk μ i x (show (20 : Nat) ≠ 22 by decide)).trans (setA_ne (v := cV 22 μ) (j := 16) (q := 14) (i := i) (x := x) (by decide)).symm
  | 15 => exact (gA_nk μ i x (show (21 : Nat) ≠ 22 by decide)).trans (setA_ne (v := cV 22 μ) (j := 16) (q := 15) (i := i) (x := x) (by decide)).symm
  | q + 16 => exact (funext fun i' => (gA_at μ 22 i i' x)).trans (setA_hi (v := cV 22 μ) (q := q) (i := i) (x := x)).symm
theorem mVs0 (μ : GM) (i x : Int) : mV 59 70 (gA μ 54 i x) = setA (mV 59 70 μ) 0 i x := by
  refine lv_ext (fun q => ?_) (fun q => rfl)
  match q with
  | 0 => exact funext fun i' => (gA_at μ 54 i i' x).trans (setA_at (v := mV 59 70 μ) (j := 0) (i := i) (x := x) rfl i').symm
  | 1 => exact (gA_nk μ i x (show (55 : Nat) ≠ 54 by decide)).trans (setA_ne (v := mV 59 70 μ) (j := 0) (q := 1) (i := i) (x := x) (by decide)).symm
  | 2 => exact (gA_nk μ i x (show (56 : Nat) ≠ 54 by decide)).trans (setA_ne (v := mV 59 70 μ) (j := 0) (q := 2) (i := i) (x := x) (by decide)).symm
  | 3 => exact (gA_nk μ i x (show (57 : Nat) ≠ 54 by decide)).trans (setA_ne (v := mV 59 70 μ) (j := 0) (q := 3) (i := i) (x := x) (by decide)).symm
  | 4 => exact (gA_nk μ i x (show (58 : Nat) ≠ 54 by decide)).trans (setA_ne (v := mV 59 70 μ) (j := 0) (q := 4) (i := i) (x := x) (by decide)).symm
  | 5 => exact (gA_nk μ i x (show (59 : Nat) ≠ 54 by decide)).trans (setA_ne (v := mV 59 70 μ) (j := 0) (q := 5) (i := i) (x := x) (by decide)).symm
  | 6 => exact (gA_nk μ i x (show (60 : Nat) ≠ 54 by decide)).trans (setA_ne (v := mV 59 70 μ) (j := 0) (q := 6) (i := i) (x := x) (by decide)).symm
  | 7 => exact (gA_nk μ i x (show (61 : Nat) ≠ 54 by decide)).trans (setA_ne (v := mV 59 70 μ) (j := 0) (q := 7) (i := i) (x := x) (by decide)).symm
  | 8 => exact (gA_nk μ i x (show (62 : Nat) ≠ 54 by decide)).trans (setA_ne (v := mV 59 70 μ) (j := 0) (q := 8) (i := i) (x := x) (by decide)).symm
  | 9 => exact (gA_nk μ i x (show (63 : Nat) ≠ 54 by decide)).trans (setA_ne (v := mV 59 70 μ) (j := 0) (q := 9) (i := i) (x := x) (by decide)).symm
  | 10 => exact (gA_nk μ i x (show (64 : Nat) ≠ 54 by decide)).trans (setA_ne (v := mV 59 70 μ) (j := 0) (q := 10) (i := i) (x := x) (by decide)).symm
  | 11 => exact (gA_nk μ i x (show (65 : Nat) ≠ 54 by decide)).trans (setA_ne (v := mV 59 70 μ) (j := 0) (q := 11) (i := i) (x := x) (by decide)).symm
  | 12 => exact (gA_nk μ i x (show (66 : Nat) ≠ 54 by decide)).trans (setA_ne (v := mV 59 70 μ) (j := 0) (q := 12) (i := i) (x := x) (by decide)).symm
  | 13 => exact (gA_nk μ i x (show (67 : Nat) ≠ 54 by decide)).trans (setA_ne (v := mV 59 70 μ) (j := 0) (q := 13) (i := i) (x := x) (by decide)).symm
  | 14 => exact (gA_nk μ i x (show (68 : Nat) ≠ 54 by decide)).trans (setA_ne (v := mV 59 70 μ) (j := 0) (q := 14) (i := i) (x := x) (by decide)).symm
  | 15 => exact (gA_nk μ i x (show (69 : Nat) ≠ 54 by decide)).trans (setA_ne (v := mV 59 70 μ) (j := 0) (q := 15) (i := i) (x := x) (by decide)).symm
  | q + 16 => exact (gA_nk μ i x (show (70 : Nat) ≠ 54 by decide)).trans (setA_ne (v := mV 59 70 μ) (j := 0) (q := q + 16) (i := i) (x := x) (by rw [cap16_hi]; decide)).symm
theorem mVs1 (μ : GM) (i x : Int) : mV 59 70 (gA μ 55 i x) = setA (mV 59 70 μ) 1 i x := by
  refine lv_ext (fun q => ?_) (fun q => rfl)
  match q with
  | 0 => exact (gA_nk μ i x (show (54 : Nat) ≠ 55 by decide)).trans (setA_ne (v := mV 59 70 μ) (j := 1) (q := 0) (i := i) (x := x) (by decide)).symm
  | 1 => exact funext fun i' => (gA_at μ 55 i i' x).trans (setA_at (v := mV 59 70 μ) (j := 1) (i := i) (x := x) rfl i').symm
  | 2 => exact (gA_nk μ i x (show (56 : Nat) ≠ 55 by decide)).trans (setA_ne (v := mV 59 70 μ) (j := 1) (q := 2) (i := i) (x := x) (by decide)).symm
  | 3 => exact (gA_nk μ i x (show (57 : Nat) ≠ 55 by decide)).trans (setA_ne (v := mV 59 70 μ) (j := 1) (q := 3) (i := i) (x := x) (by decide)).symm
  | 4 => exact (gA_nk μ i x (show (58 : Nat) ≠ 55 by decide)).trans (setA_ne (v := mV 59 70 μ) (j := 1) (q := 4) (i := i) (x := x) (by decide)).symm
  | 5 => exact (gA_nk μ i x (show (59 : Nat) ≠ 55 by decide)).trans (setA_ne (v := mV 59 70 μ) (j := 1) (q := 5) (i := i) (x := x) (by decide)).symm
  | 6 => exact (gA_nk μ i x (show (60 : Nat) ≠ 55 by decide)).trans (setA_ne (v := mV 59 70 μ) (j := 1) (q := 6) (i := i) (x := x) (by decide)).symm
  | 7 => exact (gA_nk μ i x (show (61 : Nat) ≠ 55 by decide)).trans (setA_ne (v := mV 59 70 μ) (j := 1) (q := 7) (i := i) (x := x) (by decide)).symm
  | 8 => exact (gA_nk μ i x (show (62 : Nat) ≠ 55 by decide)).trans (setA_ne (v := mV 59 70 μ) (j := 1) (q := 8) (i := i) (x := x) (by decide)).symm
  | 9 => exact (gA_nk μ i x (show (63 : Nat) ≠ 55 by decide)).trans (setA_ne (v := mV 59 70 μ) (j := 1) (q := 9) (i := i) (x := x) (by decide)).symm
  | 10 => exact (gA_nk μ i x (show (64 : Nat) ≠ 55 by decide)).trans (setA_ne (v := mV 59 70 μ) (j := 1) (q := 10) (i := i) (x := x) (by decide)).symm
  | 11 => exact (gA_nk μ i x (show (65 : Nat) ≠ 55 by decide)).trans (setA_ne (v := mV 59 70 μ) (j := 1) (q := 11) (i := i) (x := x) (by decide)).symm
  | 12 => exact (gA_nk μ i x (show (66 : Nat) ≠ 55 by decide)).trans (setA_ne (v := mV 59 70 μ) (j := 1) (q := 12) (i := i) (x := x) (by decide)).symm
  | 13 => exact (gA_nk μ i x (show (67 : Nat) ≠ 55 by decide)).trans (setA_ne (v := mV 59 70 μ) (j := 1) (q := 13) (i := i) (x := x) (by decide)).symm
  | 14 => exact (gA_nk μ i x (show (68 : Nat) ≠ 55 by decide)).trans (setA_ne (v := mV 59 70 μ) (j := 1) (q := 14) (i := i) (x := x) (by decide)).symm
  | 15 => exact (gA_nk μ i x (show (69 : Nat) ≠ 55 by decide)).trans (setA_ne (v := mV 59 70 μ) (j := 1) (q := 15) (i := i) (x := x) (by decide)).symm
  | q + 16 => exact (gA_nk μ i x (show (70 : Nat) ≠ 55 by decide)).trans (setA_ne (v := mV 59 70 μ) (j := 1) (q := q + 16) (i := i) (x := x) (by rw [cap16_hi]; decide)).symm
theorem mVs2 (μ : GM) (i x : Int) : mV 59 70 (gA μ 56 i x) = setA (mV 59 70 μ) 2 i x := by
  refine lv_ext (fun q => ?_) (fun q => rfl)
  match q with
  | 0 => exact (gA_nk μ i x (show (54 : Nat) ≠ 56 by decide)).trans (setA_ne (v := mV 59 70 μ) (j := 2) (q := 0) (i := i) (x := x) (by decide)).symm
  | 1 => exact (gA_nk μ i x (show (55 : Nat) ≠ 56 by decide)).trans (setA_ne (v := mV 59 70 μ) (j := 2) (q := 1) (i := i) (x := x) (by decide)).symm
  | 2 => exact funext fun i' => (gA_at μ 56 i i' x).trans (setA_at (v := mV 59 70 μ) (j := 2) (i := i) (x := x) rfl i').symm
  | 3 => exact (gA_nk μ i x (show (57 : Nat) ≠ 56 by decide)).trans (setA_ne (v := mV 59 70 μ) (j := 2) (q := 3) (i := i) (x := x) (by decide)).symm
  | 4 => exact (gA_nk μ i x (show (58 : Nat) ≠ 56 by decide)).trans (setA_ne (v := mV 59 70 μ) (j := 2) (q := 4) (i := i) (x := x) (by decide)).symm
  | 5 => exact (gA_nk μ i x (show (59 : Nat) ≠ 56 by decide)).trans (setA_ne (v := mV 59 70 μ) (j := 2) (q := 5) (i := i) (x := x) (by decide)).symm
  | 6 => exact (gA_nk μ i x (show (60 : Nat) ≠ 56 by decide)).trans (setA_ne (v := mV 59 70 μ) (j := 2) (q := 6) (i := i) (x := x) (by decide)).symm
  | 7 => exact (gA_nk μ i x (show (61 : Nat) ≠ 56 by decide)).trans (setA_ne (v := mV 59 70 μ) (j := 2) (q := 7) (i := i) (x := x) (by decide)).symm
  | 8 => exact (gA_nk μ i x (show (62 : Nat) ≠ 56 by decide)).trans (setA_ne (v := mV 59 70 μ) (j := 2) (q := 8) (i := i) (x := x) (by decide)).symm
  | 9 => exact (gA_nk μ i x (show (63 : Nat) ≠ 56 by decide)).trans (setA_ne (v := mV 59 70 μ) (j := 2) (q := 9) (i := i) (x := x) (by decide)).symm
  | 10 => exact (gA_nk μ i x (show (64 : Nat) ≠ 56 by decide)).trans (setA_ne (v := mV 59 70 μ) (j := 2) (q := 10) (i := i) (x := x) (by decide)).symm
  | 11 => exact (gA_nk μ i x (show (65 : Nat) ≠ 56 by decide)).trans (setA_ne (v := mV 59 70 μ) (j := 2) (q := 11) (i := i) (x := x) (by decide)).symm
  | 12 => exact (gA_nk μ i x (show (66 : Nat) ≠ 56 by decide)).trans (setA_ne (v := mV 59 70 μ) (j := 2) (q := 12) (i := i) (x := x) (by decide)).symm
  | 13 => exact (gA_nk μ i x (show (67 : Nat) ≠ 56 by decide)).trans (setA_ne (v := mV 59 70 μ) (j := 2) (q := 13) (i := i) (x := x) (by decide)).symm
  | 14 => exact (gA_nk μ i x (show (68 : Nat) ≠ 56 by decide)).trans (setA_ne (v := mV 59 70 μ) (j := 2) (q := 14) (i := i) (x := x) (by decide)).symm
  | 15 => exact (gA_nk μ i x (show (69 : Nat) ≠ 56 by decide)).trans (setA_ne (v := mV 59 70 μ) (j := 2) (q := 15) (i := i) (x := x) (by decide)).symm
  | q + 16 => exact (gA_nk μ i x (show (70 : Nat) ≠ 56 by decide)).trans (setA_ne (v := mV 59 70 μ) (j := 2) (q := q + 16) (i := i) (x := x) (by rw [cap16_hi]; decide)).symm
theorem mVs3 (μ : GM) (i x : Int) : mV 59 70 (gA μ 57 i x) = setA (mV 59 70 μ) 3 i x := by
  refine lv_ext (fun q => ?_) (fun q => rfl)
  match q with
  | 0 => exact (gA_nk μ i x (show (54 : Nat) ≠ 57 by decide)).trans (setA_ne (v := mV 59 70 μ) (j := 3) (q := 0) (i := i) (x := x) (by decide)).symm
  | 1 => exact (gA_nk μ i x (show (55 : Nat) ≠ 57 by decide)).trans (setA_ne (v := mV 59 70 μ) (j := 3) (q := 1) (i := i) (x := x) (by decide)).symm
  | 2 => exact (gA_nk μ i x (show (56 : Nat) ≠ 57 by decide)).trans (setA_ne (v := mV 59 70 μ) (j := 3) (q := 2) (i := i) (x := x) (by decide)).symm
  | 3 => exact funext fun i' => (gA_at μ 57 i i' x).trans (setA_at (v := mV 59 70 μ) (j := 3) (i := i) (x := x) rfl i').symm
  | 4 => exact (gA_nk μ i x (show (58 : Nat) ≠ 57 by decide)).trans (setA_ne (v := mV 59 70 μ) (j := 3) (q := 4) (i := i) (x := x) (by decide)).symm
  | 5 => exact (gA_nk μ i x (show (59 : Nat) ≠ 57 by decide)).trans (setA_ne (v := mV 59 70 μ) (j := 3) (q := 5) (i := i) (x := x) (by decide)).symm
  | 6 => exact (gA_nk μ i x (show (60 : Nat) ≠ 57 by decide)).trans (setA_ne (v := mV 59 70 μ) (j := 3) (q := 6) (i := i) (x := x) (by decide)).symm
  | 7 => exact (gA_nk μ i x (show (61 : Nat) ≠ 57 by decide)).trans (setA_ne (v := mV 59 70 μ) (j := 3) (q := 7) (i := i) (x := x) (by decide)).symm
  | 8 => exact (gA_nk μ i x (show (62 : Nat) ≠ 57 by decide)).trans (setA_ne (v := mV 59 70 μ) (j := 3) (q := 8) (i := i) (x := x) (by decide)).symm
  | 9 => exact (gA_nk μ i x (show (63 : Nat) ≠ 57 by decide)).trans (setA_ne (v := mV 59 70 μ) (j := 3) (q := 9) (i := i) (x := x) (by decide)).symm
  | 10 => exact (gA_nk μ i x (show (64 : Nat) ≠ 57 by decide)).trans (setA_ne (v := mV 59 70 μ) (j := 3) (q := 10) (i := i) (x := x) (by decide)).symm
  | 11 => exact (gA_nk μ i x (show (65 : Nat) ≠ 57 by decide)).trans (setA_ne (v := mV 59 70 μ) (j := 3) (q := 11) (i := i) (x := x) (by decide)).symm
  | 12 => exact (gA_nk μ i x (show (66 : Nat) ≠ 57 by decide)).trans (setA_ne (v := mV 59 70 μ) (j := 3) (q := 12) (i := i) (x := x) (by decide)).symm
  | 13 => exact (gA_nk μ i x (show (67 : Nat) ≠ 57 by decide)).trans (setA_ne (v := mV 59 70 μ) (j := 3) (q := 13) (i := i) (x := x) (by decide)).symm
  | 14 => exact (gA_nk μ i x (show (68 : Nat) ≠ 57 by decide)).trans (setA_ne (v := mV 59 70 μ) (j := 3) (q := 14) (i := i) (x := x) (by decide)).symm
  | 15 => exact (gA_nk μ i x (show (69 : Nat) ≠ 57 by decide)).trans (setA_ne (v := mV 59 70 μ) (j := 3) (q := 15) (i := i) (x := x) (by decide)).symm
  | q + 16 => exact (gA_nk μ i x (show (70 : Nat) ≠ 57 by decide)).trans (setA_ne (v := mV 59 70 μ) (j := 3) (q := q + 16) (i := i) (x := x) (by rw [cap16_hi]; decide)).symm
theorem mVs4 (μ : GM) (i x : Int) : mV 59 70 (gA μ 58 i x) = setA (mV 59 70 μ) 4 i x := by
  refine lv_ext (fun q => ?_) (fun q => rfl)
  match q with
  | 0 => exact (gA_nk μ i x (show (54 : Nat) ≠ 58 by decide)).trans (setA_ne (v := mV 59 70 μ) (j := 4) (q := 0) (i := i) (x := x) (by decide)).symm
  | 1 => exact (gA_nk μ i x (show (55 : Nat) ≠ 58 by decide)).trans (setA_ne (v := mV 59 70 μ) (j := 4) (q := 1) (i := i) (x := x) (by decide)).symm
  | 2 => exact (gA_nk μ i x (show (56 : Nat) ≠ 58 by decide)).trans (setA_ne (v := mV 59 70 μ) (j := 4) (q := 2) (i := i) (x := x) (by decide)).symm
  | 3 => exact (gA_nk μ i x (show (57 : Nat) ≠ 58 by decide)).trans (setA_ne (v := mV 59 70 μ) (j := 4) (q := 3) (i := i) (x := x) (by decide)).symm
  | 4 => exact funext fun i' => (gA_at μ 58 i i' x).trans (setA_at (v := mV 59 70 μ) (j := 4) (i := i) (x := x) rfl i').symm
  | 5 => exact (gA_nk μ i x (show (59 : Nat) ≠ 58 by decide)).trans (setA_ne (v := mV 59 70 μ) (j := 4) (q := 5) (i := i) (x := x) (by decide)).symm
  | 6 => exact (gA_nk μ i x (show (60 : Nat) ≠ 58 by decide)).trans (setA_ne (v := mV 59 70 μ) (j := 4) (q := 6) (i := i) (x := x) (by decide)).symm
  | 7 => exact (gA_nk μ i x (show (61 : Nat) ≠ 58 by decide)).trans (setA_ne (v := mV 59 70 μ) (j := 4) (q := 7) (i := i) (x := x) (by decide)).symm
  | 8 => exact (gA_nk μ i x (show (62 : Nat) ≠ 58 by decide)).trans (setA_ne (v := mV 59 70 μ) (j := 4) (q := 8) (i := i) (x := x) (by decide)).symm
  | 9 => exact (gA_nk μ i x (show (63 : Nat) ≠ 58 by decide)).trans (setA_ne (v := mV 59 70 μ) (j := 4) (q := 9) (i := i) (x := x) (by decide)).symm
  | 10 => exact (gA_nk μ i x (show (64 : Nat) ≠ 58 by decide)).trans (setA_ne (v := mV 59 70 μ) (j := 4) (q := 10) (i := i) (x := x) (by decide)).symm
  | 11 => exact (gA_nk μ i x (show (65 : Nat) ≠ 58 by decide)).trans (setA_ne (v := mV 59 70 μ) (j := 4) (q := 11) (i := i) (x := x) (by decide)).symm
  | 12 => exact (gA_nk μ i x (show (66 : Nat) ≠ 58 by decide)).trans (setA_ne (v := mV 59 70 μ) (j := 4) (q := 12) (i := i) (x := x) (by decide)).symm
  | 13 => exact (gA_nk μ i x (show (67 : Nat) ≠ 58 by decide)).trans (setA_ne (v := mV 59 70 μ) (j := 4) (q := 13) (i := i) (x := x) (by decide)).symm
  | 14 => exact (gA_nk μ i x (show (68 : Nat) ≠ 58 by decide)).trans (setA_ne (v := mV 59 70 μ) (j := 4) (q := 14) (i := i) (x := x) (by decide)).symm
  | 15 => exact (gA_nk μ i x (show (69 : Nat) ≠ 58 by decide)).trans (setA_ne (v := mV 59 70 μ) (j := 4) (q := 15) (i := i) (x := x) (by decide)).symm
  | q + 16 => exact (gA_nk μ i x (show (70 : Nat) ≠ 58 by decide)).trans (setA_ne (v := mV 59 70 μ) (j := 4) (q := q + 16) (i := i) (x := x) (by rw [cap16_hi]; decide)).symm
theorem mVs5 (μ : GM) (i x : Int) : mV 59 70 (gA μ 59 i x) = setA (mV 59 70 μ) 5 i x := by
  refine lv_ext (fun q => ?_) (fun q => rfl)
  match q with
  | 0 => exact (gA_nk μ i x (show (54 : Nat) ≠ 59 by decide)).trans (setA_ne (v := mV 59 70 μ) (j := 5) (q := 0) (i := i) (x := x) (by decide)).symm
  | 1 => exact (gA_nk μ i x (show (55 : Nat) ≠ 59 by decide)).trans (setA_ne (v := mV 59 70 μ) (j := 5) (q := 1) (i := i) (x := x) (by decide)).symm
  | 2 => exact (gA_nk μ i x (show (56 : Nat) ≠ 59 by decide)).trans (setA_ne (v := mV 59 70 μ) (j := 5) (q := 2) (i := i) (x := x) (by decide)).symm
  | 3 => exact (gA_nk μ i x (show (57 : Nat) ≠ 59 by decide)).trans (setA_ne (v := mV 59 70 μ) (j := 5) (q := 3) (i := i) (x := x) (by decide)).symm
  | 4 => exact (gA_nk μ i x (show (58 : Nat) ≠ 59 by decide)).trans (setA_ne (v := mV 59 70 μ) (j := 5) (q := 4) (i := i) (x := x) (by decide)).symm
  | 5 => exact funext fun i' => (gA_at μ 59 i i' x).trans (setA_at (v := mV 59 70 μ) (j := 5) (i := i) (x := x) rfl i').symm
  | 6 => exact (gA_nk μ i x (show (60 : Nat) ≠ 59 by decide)).trans (setA_ne (v := mV 59 70 μ) (j := 5) (q := 6) (i := i) (x := x) (by decide)).symm
  | 7 => exact (gA_nk μ i x (show (61 : Nat) ≠ 59 by decide)).trans (setA_ne (v := mV 59 70 μ) (j := 5) (q := 7) (i := i) (x := x) (by decide)).symm
  | 8 => exact (gA_nk μ i x (show (62 : Nat) ≠ 59 by decide)).trans (setA_ne (v := mV 59 70 μ) (j := 5) (q := 8) (i := i) (x := x) (by decide)).symm
  | 9 => exact (gA_nk μ i x (show (63 : Nat) ≠ 59 by decide)).trans (setA_ne (v := mV 59 70 μ) (j := 5) (q := 9) (i := i) (x := x) (by decide)).symm
  | 10 => exact (gA_nk μ i x (show (64 : Nat) ≠ 59 by decide)).trans (setA_ne (v := mV 59 70 μ) (j := 5) (q := 10) (i := i) (x := x) (by decide)).symm
  | 11 => exact (gA_nk μ i x (show (65 : Nat) ≠ 59 by decide)).trans (setA_ne (v := mV 59 70 μ) (j := 5) (q := 11) (i := i) (x := x) (by decide)).symm
  | 12 => exact (gA_nk μ i x (show (66 : Nat) ≠ 59 by decide)).trans (setA_ne (v := mV 59 70 μ) (j := 5) (q := 12) (i := i) (x := x) (by decide)).symm
  | 13 => exact (gA_nk μ i x (show (67 : Nat) ≠ 59 by decide)).trans (setA_ne (v := mV 59 70 μ) (j := 5) (q := 13) (i := i) (x := x) (by decide)).symm
  | 14 => exact (gA_nk μ i x (show (68 : Nat) ≠ 59 by decide)).trans (setA_ne (v := mV 59 70 μ) (j := 5) (q := 14) (i := i) (x := x) (by decide)).symm
  | 15 => exact (gA_nk μ i x (show (69 : Nat) ≠ 59 by decide)).trans (setA_ne (v := mV 59 70 μ) (j := 5) (q := 15) (i := i) (x := x) (by decide)).symm
  | q + 16 => exact (gA_nk μ i x (show (70 : Nat) ≠ 59 by decide)).trans (setA_ne (v := mV 59 70 μ) (j := 5) (q := q + 16) (i := i) (x := x) (by rw [cap16_hi]; decide)).symm
theorem mVs6 (μ : GM) (i x : Int) : mV 59 70 (gA μ 60 i x) = setA (mV 59 70 μ) 6 i x := by
  refine lv_ext (fun q => ?_) (fun q => rfl)
  match q with
  | 0 => exact (gA_nk μ i x (show (54 : Nat) ≠ 60 by decide)).trans (setA_ne (v := mV 59 70 μ) (j := 6) (q := 0) (i := i) (x := x) (by decide)).symm
  | 1 => exact (gA_nk μ i x (show (55 : Nat) ≠ 60 by decide)).trans (setA_ne (v := mV 59 70 μ) (j := 6) (q := 1) (i := i) (x := x) (by decide)).symm
  | 2 => exact (gA_nk μ i x (show (56 : Nat) ≠ 60 by decide)).trans (setA_ne (v := mV 59 70 μ) (j := 6) (q := 2) (i := i) (x := x) (by decide)).symm
  | 3 => exact (gA_nk μ i x (show (57 : Nat) ≠ 60 by decide)).trans (setA_ne (v := mV 59 70 μ) (j := 6) (q := 3) (i := i) (x := x) (by decide)).symm
  | 4 => exact (gA_nk μ i x (show (58 : Nat) ≠ 60 by decide)).trans (setA_ne (v := mV 59 70 μ) (j := 6) (q := 4) (i := i) (x := x) (by decide)).symm
  | 5 => exact (gA_nk μ i x (show (59 : Nat) ≠ 60 by decide)).trans (setA_ne (v := mV 59 70 μ) (j := 6) (q := 5) (i := i) (x := x) (by decide)).symm
  | 6 => exact funext fun i' => (gA_at μ 60 i i' x).trans (setA_at (v := mV 59 70 μ) (j := 6) (i := i) (x := x) rfl i').symm
  | 7 => exact (gA_nk μ i x (show (61 : Nat) ≠ 60 by decide)).trans (setA_ne (v := mV 59 70 μ) (j := 6) (q := 7) (i := i) (x := x) (by decide)).symm
  | 8 => exact (gA_nk μ i x (show (62 : Nat) ≠ 60 by decide)).trans (setA_ne (v := mV 59 70 μ) (j := 6) (q := 8) (i := i) (x := x) (by decide)).symm
  | 9 => exact (gA_nk μ i x (show (63 : Nat) ≠ 60 by decide)).trans (setA_ne (v := mV 59 70 μ) (j := 6) (q := 9) (i := i) (x := x) (by decide)).symm
  | 10 => exact (gA_nk μ i x (show (64 : Nat) ≠ 60 by decide)).trans (setA_ne (v := mV 59 70 μ) (j := 6) (q := 10) (i := i) (x := x) (by decide)).symm
  | 11 => exact (gA_nk μ i x (show (65 : Nat) ≠ 60 by decide)).trans (setA_ne (v := mV 59 70 μ) (j := 6) (q := 11) (i := i) (x := x) (by decide)).symm
  | 12 => exact (gA_nk μ i x (show (66 : Nat) ≠ 60 by decide)).trans (setA_ne (v := mV 59 70 μ) (j := 6) (q := 12) (i := i) (x := x) (by decide)).symm
  | 13 => exact (gA_nk μ i x (show (67 : Nat) ≠ 60 by decide)).trans (setA_ne (v := mV 59 70 μ) (j := 6) (q := 13) (i := i) (x := x) (by decide)).symm
  | 14 => exact (gA_nk μ i x (show (68 : Nat) ≠ 60 by decide)).trans (setA_ne (v := mV 59 70 μ) (j := 6) (q := 14) (i := i) (x := x) (by decide)).symm
  | 15 => exact (gA_nk μ i x (show (69 : Nat) ≠ 60 by decide)).trans (setA_ne (v := mV 59 70 μ) (j := 6) (q := 15) (i := i) (x := x) (by decide)).symm
  | q + 16 => exact (gA_nk μ i x (show (70 : Nat) ≠ 60 by decide)).trans (setA_ne (v := mV 59 70 μ) (j := 6) (q := q + 16) (i := i) (x := x) (by rw [cap16_hi]; decide)).symm
theorem mVs7 (μ : GM) (i x : Int) : mV 59 70 (gA μ 61 i x) = setA (mV 59 70 μ) 7 i x := by
  refine lv_ext (fun q => ?_) (fun q => rfl)
  match q with
  | 0 => exact (gA_nk μ i x (show (54 : Nat) ≠ 61 by decide)).trans (setA_ne (v := mV 59 70 μ) (j := 7) (q := 0) (i := i) (x := x) (by decide)).symm
  | 1 => exact (gA_nk μ i x (show (55 : Nat) ≠ 61 by decide)).trans (setA_ne (v := mV 59 70 μ) (j := 7) (q := 1) (i := i) (x := x) (by decide)).symm
  | 2 => exact (gA_nk μ i x (show (56 : Nat) ≠ 61 by decide)).trans (setA_ne (v := mV 59 70 μ) (j := 7) (q := 2) (i := i) (x := x) (by decide)).symm
  | 3 => exact (gA_nk μ i x (show (57 : Nat) ≠ 61 by decide)).trans (setA_ne (v := mV 59 70 μ) (j := 7) (q := 3) (i := i) (x := x) (by decide)).symm
  | 4 => exact (gA_nk μ i x (show (58 : Nat) ≠ 61 by decide)).trans (setA_ne (v := mV 59 70 μ) (j := 7) (q := 4) (i := i) (x := x) (by decide)).symm
  | 5 => exact (gA_nk μ i x (show (59 : Nat) ≠ 61 by decide)).trans (setA_ne (v := mV 59 70 μ) (j := 7) (q := 5) (i := i) (x := x) (by decide)).symm
  | 6 => exact (gA_nk μ i x (show (60 : Nat) ≠ 61 by decide)).trans (setA_ne (v := mV 59 70 μ) (j := 7) (q := 6) (i := i) (x := x) (by decide)).symm
  | 7 => exact funext fun i' => (gA_at μ 61 i i' x).trans (setA_at (v := mV 59 70 μ) (j := 7) (i := i) (x := x) rfl i').symm
  | 8 => exact (gA_nk μ i x (show (62 : Nat) ≠ 61 by decide)).trans (setA_ne (v := mV 59 70 μ) (j := 7) (q := 8) (i := i) (x := x) (by decide)).symm
  | 9 => exact (gA_nk μ i x (show (63 : Nat) ≠ 61 by decide)).trans (setA_ne (v := mV 59 70 μ) (j := 7) (q := 9) (i := i) (x := x) (by decide)).symm
  | 10 => exact (gA_nk μ i x (show (64 : Nat) ≠ 61 by decide)).trans (setA_ne (v := mV 59 70 μ) (j := 7) (q := 10) (i := i) (x := x) (by decide)).symm
  | 11 => exact (gA_nk μ i x (show (65 : Nat) ≠ 61 by decide)).trans (setA_ne (v := mV 59 70 μ) (j := 7) (q := 11) (i := i) (x := x) (by decide)).symm
  | 12 => exact (gA_nk μ i x (show (66 : Nat) ≠ 61 by decide)).trans (setA_ne (v := mV 59 70 μ) (j := 7) (q := 12) (i := i) (x := x) (by decide)).symm
  | 13 => exact (gA_nk μ i x (show (67 : Nat) ≠ 61 by decide)).trans (setA_ne (v := mV 59 70 μ) (j := 7) (q := 13) (i := i) (x := x) (by decide)).symm
  | 14 => exact (gA_nk μ i x (show (68 : Nat) ≠ 61 by decide)).trans (setA_ne (v := mV 59 70 μ) (j := 7) (q := 14) (i := i) (x := x) (by decide)).symm
  | 15 => exact (gA_nk μ i x (show (69 : Nat) ≠ 61 by decide)).trans (setA_ne (v := mV 59 70 μ) (j := 7) (q := 15) (i := i) (x := x) (by decide)).symm
  | q + 16 => exact (gA_nk μ i x (show (70 : Nat) ≠ 61 by decide)).trans (setA_ne (v := mV 59 70 μ) (j := 7) (q := q + 16) (i := i) (x := x) (by rw [cap16_hi]; decide)).symm
theorem mVs8 (μ : GM) (i x : Int) : mV 59 70 (gA μ 62 i x) = setA (mV 59 70 μ) 8 i x := by
  refine lv_ext (fun q => ?_) (fun q => rfl)
  match q with
  | 0 => exact (gA_nk μ i x (show (54 : Nat) ≠ 62 by decide)).trans (setA_ne (v := mV 59 70 μ) (j := 8) (q := 0) (i := i) (x := x) (by decide)).symm
  | 1 => exact (gA_nk μ i x (show (55 : Nat) ≠ 62 by decide)).trans (setA_ne (v := mV 59 70 μ) (j := 8) (q := 1) (i := i) (x := x) (by decide)).symm
  | 2 => exact (gA_nk μ i x (show (56 : Nat) ≠ 62 by decide)).trans (setA_ne (v := mV 59 70 μ) (j := 8) (q := 2) (i := i) (x := x) (by decide)).symm
  | 3 => exact (gA_nk μ i x (show (57 : Nat) ≠ 62 by decide)).trans (setA_ne (v := mV 59 70 μ) (j := 8) (q := 3) (i := i) (x := x) (by decide)).symm
  | 4 => exact (gA_nk μ i x (show (58 : Nat) ≠ 62 by decide)).trans (setA_ne (v := mV 59 70 μ) (j := 8) (q := 4) (i := i) (x := x) (by decide)).symm
  | 5 => exact (gA_nk μ i x (show (59 : Nat) ≠ 62 by decide)).trans (setA_ne (v := mV 59 70 μ) (j := 8) (q := 5) (i := i) (x := x) (by decide)).symm
  | 6 => exact (gA_nk μ i x (show (60 : Nat) ≠ 62 by decide)).trans (setA_ne (v := mV 59 70 μ) (j := 8) (q := 6) (i := i) (x := x) (by decide)).symm
  | 7 => exact (gA_nk μ i x (show (61 : Nat) ≠ 62 by decide)).trans (setA_ne (v := mV 59 70 μ) (j := 8) (q := 7) (i := i) (x := x) (by decide)).symm
  | 8 => exact funext fun i' => (gA_at μ 62 i i' x).trans (setA_at (v := mV 59 70 μ) (j := 8) (i := i) (x := x) rfl i').symm
  | 9 => exact (gA_nk μ i x (show (63 : Nat) ≠ 62 by decide)).trans (setA_ne (v := mV 59 70 μ) (j := 8) (q := 9) (i := i) (x := x) (by decide)).symm
  | 10 => exact (gA_nk μ i x (show (64 : Nat) ≠ 62 by decide)).trans (setA_ne (v := mV 59 70 μ) (j := 8) (q := 10) (i := i) (x := x) (by decide)).symm
  | 11 => exact (gA_nk μ i x (show (65 : Nat) ≠ 62 by decide)).trans (setA_ne (v := mV 59 70 μ) (j := 8) (q := 11) (i := i) (x := x) (by decide)).symm
  | 12 => exact (gA_nk μ i x (show (66 : Nat) ≠ 62 by decide)).trans (setA_ne (v := mV 59 70 μ) (j := 8) (q := 12) (i := i) (x := x) (by decide)).symm
  | 13 => exact (gA_nk μ i x (show (67 : Nat) ≠ 62 by decide)).trans (setA_ne (v := mV 59 70 μ) (j := 8) (q := 13) (i := i) (x := x) (by decide)).symm
  | 14 => exact (gA_nk μ i x (show (68 : Nat) ≠ 62 by decide)).trans (setA_ne (v := mV 59 70 μ) (j := 8) (q := 14) (i := i) (x := x) (by decide)).symm
  | 15 => exact (gA_nk μ i x (show (69 : Nat) ≠ 62 by decide)).trans (setA_ne (v := mV 59 70 μ) (j := 8) (q := 15) (i := i) (x := x) (by decide)).symm
  | q + 16 => exact (gA_nk μ i x (show (70 : Nat) ≠ 62 by decide)).trans (setA_ne (v := mV 59 70 μ) (j := 8) (q := q + 16) (i := i) (x := x) (by rw [cap16_hi]; decide)).symm
theorem mVs9 (μ : GM) (i x : Int) : mV 59 70 (gA μ 63 i x) = setA (mV 59 70 μ) 9 i x := by
  refine lv_ext (fun q => ?_) (fun q => rfl)
  match q with
  | 0 => exact (gA_nk μ i x (show (54 : Nat) ≠ 63 by decide)).trans (setA_ne (v := mV 59 70 μ) (j := 9) (q := 0) (i := i) (x := x) (by decide)).symm
  | 1 => exact (gA_nk μ i x (show (55 : Nat) ≠ 63 by decide)).trans (setA_ne (v := mV 59 70 μ) (j := 9) (q := 1) (i := i) (x := x) (by decide)).symm
  | 2 => exact (gA_nk μ i x (show (56 : Nat) ≠ 63 by decide)).trans (setA_ne (v := mV 59 70 μ) (j := 9) (q := 2) (i := i) (x := x) (by decide)).symm
  | 3 => exact (gA_nk μ i x (show (57 : Nat) ≠ 63 by decide)).trans (setA_ne (v := mV 59 70 μ) (j := 9) (q := 3) (i := i) (x := x) (by decide)).symm
  | 4 => exact (gA_nk μ i x (show (58 : Nat) ≠ 63 by decide)).trans (setA_ne (v := mV 59 70 μ) (j := 9) (q := 4) (i := i) (x := x) (by decide)).symm
  | 5 => exact (gA_nk μ i x (show (59 : Nat) ≠ 63 by decide)).trans (setA_ne (v := mV 59 70 μ) (j := 9) (q := 5) (i := i) (x := x) (by decide)).symm
  | 6 => exact (gA_nk μ i x (show (60 : Nat) ≠ 63 by decide)).trans (setA_ne (v := mV 59 70 μ) (j := 9) (q := 6) (i := i) (x := x) (by decide)).symm
  | 7 => exact (gA_nk μ i x (show (61 : Nat) ≠ 63 by decide)).trans (setA_ne (v := mV 59 70 μ) (j := 9) (q := 7) (i := i) (x := x) (by decide)).symm
  | 8 => exact (gA_nk μ i x (show (62 : Nat) ≠ 63 by decide)).trans (setA_ne (v := mV 59 70 μ) (j := 9) (q := 8) (i := i) (x := x) (by decide)).symm
  | 9 => exact funext fun i' => (gA_at μ 63 i i' x).trans (setA_at (v := mV 59 70 μ) (j := 9) (i := i) (x := x) rfl i').symm
  | 10 => exact (gA_nk μ i x (show (64 : Nat) ≠ 63 by decide)).trans (setA_ne (v := mV 59 70 μ) (j := 9) (q := 10) (i := i) (x := x) (by decide)).symm
  | 11 => exact (gA_nk μ i x (show (65 : Nat) ≠ 63 by decide)).trans (setA_ne (v := mV 59 70 μ) (j := 9) (q := 11) (i := i) (x := x) (by decide)).symm
  | 12 => exact (gA_nk μ i x (show (66 : Nat) ≠ 63 by decide)).trans (setA_ne (v := mV 59 70 μ) (j := 9) (q := 12) (i := i) (x := x) (by decide)).symm
  | 13 => exact (gA_nk μ i x (show (67 : Nat) ≠ 63 by decide)).trans (setA_ne (v := mV 59 70 μ) (j := 9) (q := 13) (i := i) (x := x) (by decide)).symm
  | 14 => exact (gA_nk μ i x (show (68 : Nat) ≠ 63 by decide)).trans (setA_ne (v := mV 59 70 μ) (j := 9) (q := 14) (i := i) (x := x) (by decide)).symm
  | 15 => exact (gA_nk μ i x (show (69 : Nat) ≠ 63 by decide)).trans (setA_ne (v := mV 59 70 μ) (j := 9) (q := 15) (i := i) (x := x) (by decide)).symm
  | q + 16 => exact (gA_nk μ i x (show (70 : Nat) ≠ 63 by decide)).trans (setA_ne (v := mV 59 70 μ) (j := 9) (q := q + 16) (i := i) (x := x) (by rw [cap16_hi]; decide)).symm
theorem mVs10 (μ : GM) (i x : Int) : mV 59 70 (gA μ 64 i x) = setA (mV 59 70 μ) 10 i x := by
  refine lv_ext (fun q => ?_) (fun q => rfl)
  match q with
  | 0 => exact (gA_nk μ i x (show (54 : Nat) ≠ 64 by decide)).trans (setA_ne (v := mV 59 70 μ) (j := 10) (q := 0) (i := i) (x := x) (by decide)).symm
  | 1 => exact (gA_nk μ i x (show (55 : Nat) ≠ 64 by decide)).trans (setA_ne (v := mV 59 70 μ) (j := 10) (q := 1) (i := i) (x := x) (by decide)).symm
  | 2 => exact (gA_nk μ i x (show (56 : Nat) ≠ 64 by decide)).trans (setA_ne (v := mV 59 70 μ) (j := 10) (q := 2) (i := i) (x := x) (by decide)).symm
  | 3 => exact (gA_nk μ i x (show (57 : Nat) ≠ 64 by decide)).trans (setA_ne (v := mV 59 70 μ) (j := 10) (q := 3) (i := i) (x := x) (by decide)).symm
  | 4 => exact (gA_nk μ i x (show (58 : Nat) ≠ 64 by decide)).trans (setA_ne (v := mV 59 70 μ) (j := 10) (q := 4) (i := i) (x := x) (by decide)).symm
  | 5 => exact (gA_nk μ i x (show (59 : Nat) ≠ 64 by decide)).trans (setA_ne (v := mV 59 70 μ) (j := 10) (q := 5) (i := i) (x := x) (by decide)).symm
  | 6 => exact (gA_nk μ i x (show (60 : Nat) ≠ 64 by decide)).trans (setA_ne (v := mV 59 70 μ) (j := 10) (q := 6) (i := i) (x := x) (by decide)).symm
  | 7 => exact (gA_nk μ i x (show (61 : Nat) ≠ 64 by decide)).trans (setA_ne (v := mV 59 70 μ) (j := 10) (q := 7) (i := i) (x := x) (by decide)).symm
  | 8 => exact (gA_nk μ i x (show (62 : Nat) ≠ 64 by decide)).trans (setA_ne (v := mV 59 70 μ) (j := 10) (q := 8) (i := i) (x := x) (by decide)).symm
  | 9 => exact (gA_nk μ i x (show (63 : Nat) ≠ 64 by decide)).trans (setA_ne (v := mV 59 70 μ) (j := 10) (q := 9) (i := i) (x := x) (by decide)).symm
  | 10 => exact funext fun i' => (gA_at μ 64 i i' x).trans (setA_at (v := mV 59 70 μ) (j := 10) (i := i) (x := x) rfl i').symm
  | 11 => exact (gA_nk μ i x (show (65 : Nat) ≠ 64 by decide)).trans (setA_ne (v := mV 59 70 μ) (j := 10) (q := 11) (i := i) (x := x) (by decide)).symm
  | 12 => exact (gA_nk μ i x (show (66 : Nat) ≠ 64 by decide)).trans (setA_ne (v := mV 59 70 μ) (j := 10) (q := 12) (i := i) (x := x) (by decide)).symm
  | 13 => exact (gA_nk μ i x (show (67 : Nat) ≠ 64 by decide)).trans (setA_ne (v := mV 59 70 μ) (j := 10) (q := 13) (i := i) (x := x) (by decide)).symm
  | 14 => exact (gA_nk μ i x (show (68 : Nat) ≠ 64 by decide)).trans (setA_ne (v := mV 59 70 μ) (j := 10) (q := 14) (i := i) (x := x) (by decide)).symm
  | 15 => exact (gA_nk μ i x (show (69 : Nat) ≠ 64 by decide)).trans (setA_ne (v := mV 59 70 μ) (j := 10) (q := 15) (i := i) (x := x) (by decide)).symm
  | q + 16 => exact (gA_nk μ i x (show (70 : Nat) ≠ 64 by decide)).trans (setA_ne (v := mV 59 70 μ) (j := 10) (q := q + 16) (i := i) (x := x) (by rw [cap16_hi]; decide)).symm
theorem mVs11 (μ : GM) (i x : Int) : mV 59 70 (gA μ 65 i x) = setA (mV 59 70 μ) 11 i x := by
  refine lv_ext (fun q => ?_) (fun q => rfl)
  match q with
  | 0 => exact (gA_nk μ i x (show (54 : Nat) ≠ 65 by decide)).trans (setA_ne (v := mV 59 70 μ) (j := 11) (q := 0) (i := i) (x := x) (by decide)).symm
  | 1 => exact (gA_nk μ i x (show (55 : Nat) ≠ 65 by decide)).trans (setA_ne (v := mV 59 70 μ) (j := 11) (q := 1) (i := i) (x := x) (by decide)).symm
  | 2 => exact (gA_nk μ i x (show (56 : Nat) ≠ 65 by decide)).trans (setA_ne (v := mV 59 70 μ) (j := 11) (q := 2) (i := i) (x := x) (by decide)).symm
  | 3 => exact (gA_nk μ i x (show (57 : Nat) ≠ 65 by decide)).trans (setA_ne (v := mV 59 70 μ) (j := 11) (q := 3) (i := i) (x := x) (by decide)).symm
  | 4 => exact (gA_nk μ i x (show (58 : Nat) ≠ 65 by decide)).trans (setA_ne (v := mV 59 70 μ) (j := 11) (q := 4) (i := i) (x := x) (by decide)).symm
  | 5 => exact (gA_nk μ i x (show (59 : Nat) ≠ 65 by decide)).trans (setA_ne (v := mV 59 70 μ) (j := 11) (q := 5) (i := i) (x := x) (by decide)).symm
  | 6 => exact (gA_nk μ i x (show (60 : Nat) ≠ 65 by decide)).trans (setA_ne (v := mV 59 70 μ) (j := 11) (q := 6) (i := i) (x := x) (by decide)).symm
  | 7 => exact (gA_nk μ i x (show (61 : Nat) ≠ 65 by decide)).trans (setA_ne (v := mV 59 70 μ) (j := 11) (q := 7) (i := i) (x := x) (by decide)).symm
  | 8 => exact (gA_nk μ i x (show (62 : Nat) ≠ 65 by decide)).trans (setA_ne (v := mV 59 70 μ) (j := 11) (q := 8) (i := i) (x := x) (by decide)).symm
  | 9 => exact (gA_nk μ i x (show (63 : Nat) ≠ 65 by decide)).trans (setA_ne (v := mV 59 70 μ) (j := 11) (q := 9) (i := i) (x := x) (by decide)).symm
  | 10 => exact (gA_nk μ i x (show (64 : Nat) ≠ 65 by decide)).trans (setA_ne (v := mV 59 70 μ) (j := 11) (q := 10) (i := i) (x := x) (by decide)).symm
  | 11 => exact funext fun i' => (gA_at μ 65 i i' x).trans (setA_at (v := mV 59 70 μ) (j := 11) (i := i) (x := x) rfl i').symm
  | 12 => exact (gA_nk μ i x (show (66 : Nat) ≠ 65 by decide)).trans (setA_ne (v := mV 59 70 μ) (j := 11) (q := 12) (i := i) (x := x) (by decide)).symm
  | 13 => exact (gA_nk μ i x (show (67 : Nat) ≠ 65 by decide)).trans (setA_ne (v := mV 59 70 μ) (j := 11) (q := 13) (i := i) (x := x) (by decide)).symm
  | 14 => exact (gA_nk μ i x (show (68 : Nat) ≠ 65 by decide)).trans (setA_ne (v := mV 59 70 μ) (j := 11) (q := 14) (i := i) (x := x) (by decide)).symm
  | 15 => exact (gA_nk μ i x (show (69 : Nat) ≠ 65 by decide)).trans (setA_ne (v := mV 59 70 μ) (j := 11) (q := 15) (i := i) (x := x) (by decide)).symm
  | q + 16 => exact (gA_nk μ i x (show (70 : Nat) ≠ 65 by decide)).trans (setA_ne (v := mV 59 70 μ) (j := 11) (q := q + 16) (i := i) (x := x) (by rw [cap16_hi]; decide)).symm
theorem mVs12 (μ : GM) (i x : Int) : mV 59 70 (gA μ 66 i x) = setA (mV 59 70 μ) 12 i x := by
  refine lv_ext (fun q => ?_) (fun q => rfl)
  match q with
  | 0 => exact (gA_nk μ i x (show (54 : Nat) ≠ 66 by decide)).trans (setA_ne (v := mV 59 70 μ) (j := 12) (q := 0) (i := i) (x := x) (by decide)).symm
  | 1 => exact (gA_nk μ i x (show (55 : Nat) ≠ 66 by decide)).trans (setA_ne (v := mV 59 70 μ) (j := 12) (q := 1) (i := i) (x := x) (by decide)).symm
  | 2 => exact (gA_nk μ i x (show (56 : Nat) ≠ 66 by decide)).trans (setA_ne (v := mV 59 70 μ) (j := 12) (q := 2) (i := i) (x := x) (by decide)).symm
  | 3 => exact (gA_nk μ i x (show (57 : Nat) ≠ 66 by decide)).trans (setA_ne (v := mV 59 70 μ) (j := 12) (q := 3) (i := i) (x := x) (by decide)).symm
  | 4 => exact (gA_nk μ i x (show (58 : Nat) ≠ 66 by decide)).trans (setA_ne (v := mV 59 70 μ) (j := 12) (q := 4) (i := i) (x := x) (by decide)).symm
  | 5 => exact (gA_nk μ i x (show (59 : Nat) ≠ 66 by decide)).trans (setA_ne (v := mV 59 70 μ) (j := 12) (q := 5) (i := i) (x := x) (by decide)).symm
  | 6 => exact (gA_nk μ i x (show (60 : Nat) ≠ 66 by decide)).trans (setA_ne (v := mV 59 70 μ) (j := 12) (q := 6) (i := i) (x := x) (by decide)).symm
  | 7 => exact (gA_nk μ i x (show (61 : Nat) ≠ 66 by decide)).trans (setA_ne (v := mV 59 70 μ) (j := 12) (q := 7) (i := i) (x := x) (by decide)).symm
  | 8 => exact (gA_nk μ i x (show (62 : Nat) ≠ 66 by decide)).trans (setA_ne (v := mV 59 70 μ) (j := 12) (q := 8) (i := i) (x := x) (by decide)).symm
  | 9 => exact (gA_nk μ i x (show (63 : Nat) ≠ 66 by decide)).trans (setA_ne (v := mV 59 70 μ) (j := 12) (q := 9) (i := i) (x := x) (by decide)).symm
  | 10 => exact (gA_nk μ i x (show (64 : Nat) ≠ 66 by decide)).trans (setA_ne (v := mV 59 70 μ) (j := 12) (q := 10) (i := i) (x := x) (by decide)).symm
  | 11 => exact (gA_nk μ i x (show (65 : Nat) ≠ 66 by decide)).trans (setA_ne (v := mV 59 70 μ) (j := 12) (q := 11) (i := i) (x := x) (by decide)).symm
  | 12 => exact funext fun i' => (gA_at μ 66 i i' x).trans (setA_at (v := mV 59 70 μ) (j := 12) (i := i) (x := x) rfl i').symm
  | 13 => exact (gA_nk μ i x (show (67 : Nat) ≠ 66 by decide)).trans (setA_ne (v := mV 59 70 μ) (j := 12) (q := 13) (i := i) (x := x) (by decide)).symm
  | 14 => exact (gA_nk μ i x (show (68 : Nat) ≠ 66 by decide)).trans (setA_ne (v := mV 59 70 μ) (j := 12) (q := 14) (i := i) (x := x) (by decide)).symm
  | 15 => exact (gA_nk μ i x (show (69 : Nat) ≠ 66 by decide)).trans (setA_ne (v := mV 59 70 μ) (j := 12) (q := 15) (i := i) (x := x) (by decide)).symm
  | q + 16 => exact (gA_nk μ i x (show (70 : Nat) ≠ 66 by decide)).trans (setA_ne (v := mV 59 70 μ) (j := 12) (q := q + 16) (i := i) (x := x) (by rw [cap16_hi]; decide)).symm
theorem mVs13 (μ : GM) (i x : Int) : mV 59 70 (gA μ 67 i x) = setA (mV 59 70 μ) 13 i x := by
  refine lv_ext (fun q => ?_) (fun q => rfl)
  match q with
  | 0 => exact (gA_nk μ i x (show (54 : Nat) ≠ 67 by decide)).trans (setA_ne (v := mV 59 70 μ) (j := 13) (q := 0) (i := i) (x := x) (by decide)).symm
  | 1 => exact (gA_nk μ i x (show (55 : Nat) ≠ 67 by decide)).trans (setA_ne (v := mV 59 70 μ) (j := 13) (q := 1) (i := i) (x := x) (by decide)).symm
  | 2 => exact (gA_nk μ i x (show (56 : Nat) ≠ 67 by decide)).trans (setA_ne (v := mV 59 70 μ) (j := 13) (q := 2) (i := i) (x := x) (by decide)).symm
  | 3 => exact (gA_nk μ i x (show (57 : Nat) ≠ 67 by decide)).trans (setA_ne (v := mV 59 70 μ) (j := 13) (q := 3) (i := i) (x := x) (by decide)).symm
  | 4 => exact (gA_nk μ i x (show (58 : Nat) ≠ 67 by decide)).trans (setA_ne (v := mV 59 70 μ) (j := 13) (q := 4) (i := i) (x := x) (by decide)).symm
  | 5 => exact (gA_nk μ i x (show (59 : Nat) ≠ 67 by decide)).trans (setA_ne (v := mV 59 70 μ) (j := 13) (q := 5) (i := i) (x := x) (by decide)).symm
  | 6 => exact (gA_nk μ i x (show (60 : Nat) ≠ 67 by decide)).trans (setA_ne (v := mV 59 70 μ) (j := 13) (q := 6) (i := i) (x := x) (by decide)).symm
  | 7 => exact (gA_nk μ i x (show (61 : Nat) ≠ 67 by decide)).trans (setA_ne (v := mV 59 70 μ) (j := 13) (q := 7) (i := i) (x := x) (by decide)).symm
  | 8 => exact (gA_nk μ i x (show (62 : Nat) ≠ 67 by decide)).trans (setA_ne (v := mV 59 70 μ) (j := 13) (q := 8) (i := i) (x := x) (by decide)).symm
  | 9 => exact (gA_nk μ i x (show (63 : Nat) ≠ 67 by decide)).trans (setA_ne (v := mV 59 70 μ) (j := 13) (q := 9) (i := i) (x := x) (by decide)).symm
  | 10 => exact (gA_nk μ i x (show (64 : Nat) ≠ 67 by decide)).trans (setA_ne (v := mV 59 70 μ) (j := 13) (q := 10) (i := i) (x := x) (by decide)).symm
  | 11 => exact (gA_nk μ i x (show (65 : Nat) ≠ 67 by decide)).trans (setA_ne (v := mV 59 70 μ) (j := 13) (q := 11) (i := i) (x := x) (by decide)).symm
  | 12 => exact (gA_nk μ i x (show (66 : Nat) ≠ 67 by decide)).trans (setA_ne (v := mV 59 70 μ) (j := 13) (q := 12) (i := i) (x := x) (by decide)).symm
  | 13 => exact funext fun i' => (gA_at μ 67 i i' x).trans (setA_at (v := mV 59 70 μ) (j := 13) (i := i) (x := x) rfl i').symm
  | 14 => exact (gA_nk μ i x (show (68 : Nat) ≠ 67 by decide)).trans (setA_ne (v := mV 59 70 μ) (j := 13) (q := 14) (i := i) (x := x) (by decide)).symm
  | 15 => exact (gA_nk μ i x (show (69 : Nat) ≠ 67 by decide)).trans (setA_ne (v := mV 59 70 μ) (j := 13) (q := 15) (i := i) (x := x) (by decide)).symm
  | q + 16 => exact (gA_nk μ i x (show (70 : Nat) ≠ 67 by decide)).trans (setA_ne (v := mV 59 70 μ) (j := 13) (q := q + 16) (i := i) (x := x) (by rw [cap16_hi]; decide)).symm
theorem mVs14 (μ : GM) (i x : Int) : mV 59 70 (gA μ 68 i x) = setA (mV 59 70 μ) 14 i x := by
  refine lv_ext (fun q => ?_) (fun q => rfl)
  match q with
  | 0 => exact (gA_nk μ i x (show (54 : Nat) ≠ 68 by decide)).trans (setA_ne (v := mV 59 70 μ) (j := 14) (q := 0) (i := i) (x := x) (by decide)).symm
  | 1 => exact (gA_nk μ i x (show (55 : Nat) ≠ 68 by decide)).trans (setA_ne (v := mV 59 70 μ) (j := 14) (q := 1) (i := i) (x := x) (by decide)).symm
  | 2 => exact (gA_nk μ i x (show (56 : Nat) ≠ 68 by decide)).trans (setA_ne (v := mV 59 70 μ) (j := 14) (q := 2) (i := i) (x := x) (by decide)).symm
  | 3 => exact (gA_nk μ i x (show (57 : Nat) ≠ 68 by decide)).trans (setA_ne (v := mV 59 70 μ) (j := 14) (q := 3) (i := i) (x := x) (by decide)).symm
  | 4 => exact (gA_nk μ i x (show (58 : Nat) ≠ 68 by decide)).trans (setA_ne (v := mV 59 70 μ) (j := 14) (q := 4) (i := i) (x := x) (by decide)).symm
  | 5 => exact (gA_nk μ i x (show (59 : Nat) ≠ 68 by decide)).trans (setA_ne (v := mV 59 70 μ) (j := 14) (q := 5) (i := i) (x := x) (by decide)).symm
  | 6 => exact (gA_nk μ i x (show (60 : Nat) ≠ 68 by decide)).trans (setA_ne (v := mV 59 70 μ) (j := 14) (q := 6) (i := i) (x := x) (by decide)).symm
  | 7 => exact (gA_nk μ i x (show (61 : Nat) ≠ 68 by decide)).trans (setA_ne (v := mV 59 70 μ) (j := 14) (q := 7) (i := i) (x := x) (by decide)).symm
  | 8 => exact (gA_nk μ i x (show (62 : Nat) ≠ 68 by decide)).trans (setA_ne (v := mV 59 70 μ) (j := 14) (q := 8) (i := i) (x := x) (by decide)).symm
  | 9 => exact (gA_nk μ i x (show (63 : Nat) ≠ 68 by decide)).trans (setA_ne (v := mV 59 70 μ) (j := 14) (q := 9) (i := i) (x := x) (by decide)).symm
  | 10 => exact (gA_nk μ i x (show (64 : Nat) ≠ 68 by decide)).trans (setA_ne (v := mV 59 70 μ) (j := 14) (q := 10) (i := i) (x := x) (by decide)).symm
  | 11 => exact (gA_nk μ i x (show (65 : Nat) ≠ 68 by decide)).trans (setA_ne (v := mV 59 70 μ) (j := 14) (q := 11) (i := i) (x := x) (by decide)).symm
  | 12 => exact (gA_nk μ i x (show (66 : Nat) ≠ 68 by decide)).trans (setA_ne (v := mV 59 70 μ) (j := 14) (q := 12) (i := i) (x := x) (by decide)).symm
  | 13 => exact (gA_nk μ i x (show (67 : Nat) ≠ 68 by decide)).trans (setA_ne (v := mV 59 70 μ) (j := 14) (q := 13) (i := i) (x := x) (by decide)).symm
  | 14 => exact funext fun i' => (gA_at μ 68 i i' x).trans (setA_at (v := mV 59 70 μ) (j := 14) (i := i) (x := x) rfl i').symm
  | 15 => exact (gA_nk μ i x (show (69 : Nat) ≠ 68 by decide)).trans (setA_ne (v := mV 59 70 μ) (j := 14) (q := 15) (i := i) (x := x) (by decide)).symm
  | q + 16 => exact (gA_nk μ i x (show (70 : Nat) ≠ 68 by decide)).trans (setA_ne (v := mV 59 70 μ) (j := 14) (q := q + 16) (i := i) (x := x) (by rw [cap16_hi]; decide)).symm
theorem mVs15 (μ : GM) (i x : Int) : mV 59 70 (gA μ 69 i x) = setA (mV 59 70 μ) 15 i x := by
  refine lv_ext (fun q => ?_) (fun q => rfl)
  match q with
  | 0 => exact (gA_nk μ i x (show (54 : Nat) ≠ 69 by decide)).trans (setA_ne (v := mV 59 70 μ) (j := 15) (q := 0) (i := i) (x := x) (by decide)).symm
  | 1 => exact (gA_nk μ i x (show (55 : Nat) ≠ 69 by decide)).trans (setA_ne (v := mV 59 70 μ) (j := 15) (q := 1) (i := i) (x := x) (by decide)).symm
  | 2 => exact (gA_nk μ i x (show (56 : Nat) ≠ 69 by decide)).trans (setA_ne (v := mV 59 70 μ) (j := 15) (q := 2) (i := i) (x := x) (by decide)).symm
  | 3 => exact (gA_nk μ i x (show (57 : Nat) ≠ 69 by decide)).trans (setA_ne (v := mV 59 70 μ) (j := 15) (q := 3) (i := i) (x := x) (by decide)).symm
  | 4 => exact (gA_nk μ i x (show (58 : Nat) ≠ 69 by decide)).trans (setA_ne (v := mV 59 70 μ) (j := 15) (q := 4) (i := i) (x := x) (by decide)).symm
  | 5 => exact (gA_nk μ i x (show (59 : Nat) ≠ 69 by decide)).trans (setA_ne (v := mV 59 70 μ) (j := 15) (q := 5) (i := i) (x := x) (by decide)).symm
  | 6 => exact (gA_nk μ i x (show (60 : Nat) ≠ 69 by decide)).trans (setA_ne (v := mV 59 70 μ) (j := 15) (q := 6) (i := i) (x := x) (by decide)).symm
  | 7 => exact (gA_nk μ i x (show (61 : Nat) ≠ 69 by decide)).trans (setA_ne (v := mV 59 70 μ) (j := 15) (q := 7) (i := i) (x := x) (by decide)).symm
  | 8 => exact (gA_nk μ i x (show (62 : Nat) ≠ 69 by decide)).trans (setA_ne (v := mV 59 70 μ) (j := 15) (q := 8) (i := i) (x := x) (by decide)).symm
  | 9 => exact (gA_nk μ i x (show (63 : Nat) ≠ 69 by decide)).trans (setA_ne (v := mV 59 70 μ) (j := 15) (q := 9) (i := i) (x := x) (by decide)).symm
  | 10 => exact (gA_nk μ i x (show (64 : Nat) ≠ 69 by decide)).trans (setA_ne (v := mV 59 70 μ) (j := 15) (q := 10) (i := i) (x := x) (by decide)).symm
  | 11 => exact (gA_nk μ i x (show (65 : Nat) ≠ 69 by decide)).trans (setA_ne (v := mV 59 70 μ) (j := 15) (q := 11) (i := i) (x := x) (by decide)).symm
  | 12 => exact (gA_nk μ i x (show (66 : Nat) ≠ 69 by decide)).trans (setA_ne (v := mV 59 70 μ) (j := 15) (q := 12) (i := i) (x := x) (by decide)).symm
  | 13 => exact (gA_nk μ i x (show (67 : Nat) ≠ 69 by decide)).trans (setA_ne (v := mV 59 70 μ) (j := 15) (q := 13) (i := i) (x := x) (by decide)).symm
  | 14 => exact (gA_nk μ i x (show (68 : Nat) ≠ 69 by decide)).trans (setA_ne (v := mV 59 70 μ) (j := 15) (q := 14) (i := i) (x := x) (by decide)).symm
  | 15 => exact funext fun i' => (gA_at μ 69 i i' x).trans (setA_at (v := mV 59 70 μ) (j := 15) (i := i) (x := x) rfl i').symm
  | q + 16 => exact (gA_nk μ i x (show (70 : Nat) ≠ 69 by decide)).trans (setA_ne (v := mV 59 70 μ) (j := 15) (q := q + 16) (i := i) (x := x) (by rw [cap16_hi]; decide)).symm
theorem mVs16 (μ : GM) (i x : Int) : mV 59 70 (gA μ 70 i x) = setA (mV 59 70 μ) 16 i x := by
  refine lv_ext (fun q => ?_) (fun q => rfl)
  match q with
  | 0 => exact (gA_nk μ i x (show (54 : Nat) ≠ 70 by decide)).trans (setA_ne (v := mV 59 70 μ) (j := 16) (q := 0) (i := i) (x := x) (by decide)).symm
  | 1 => exact (gA_nk μ i x (show (55 : Nat) ≠ 70 by decide)).trans (setA_ne (v := mV 59 70 μ) (j := 16) (q := 1) (i := i) (x := x) (by decide)).symm
  | 2 => exact (gA_nk μ i x (show (56 : Nat) ≠ 70 by decide)).trans (setA_ne (v := mV 59 70 μ) (j := 16) (q := 2) (i := i) (x := x) (by decide)).symm
  | 3 => exact (gA_nk μ i x (show (57 : Nat) ≠ 70 by decide)).trans (setA_ne (v := mV 59 70 μ) (j := 16) (q := 3) (i := i) (x := x) (by decide)).symm
  | 4 => exact (gA_nk μ i x (show (58 : Nat) ≠ 70 by decide)).trans (setA_ne (v := mV 59 70 μ) (j := 16) (q := 4) (i := i) (x := x) (by decide)).symm
  | 5 => exact (gA_nk μ i x (show (59 : Nat) ≠ 70 by decide)).trans (setA_ne (v := mV 59 70 μ) (j := 16) (q := 5) (i := i) (x := x) (by decide)).symm
  | 6 => exact (gA_nk μ i x (show (60 : Nat) ≠ 70 by decide)).trans (setA_ne (v := mV 59 70 μ) (j := 16) (q := 6) (i := i) (x := x) (by decide)).symm
  | 7 => exact (gA_nk μ i x (show (61 : Nat) ≠ 70 by decide)).trans (setA_ne (v := mV 59 70 μ) (j := 16) (q := 7) (i := i) (x := x) (by decide)).symm
  | 8 => exact (gA_nk μ i x (show (62 : Nat) ≠ 70 by decide)).trans (setA_ne (v := mV 59 70 μ) (j := 16) (q := 8) (i := i) (x := x) (by decide)).symm
  | 9 => exact (gA_nk μ i x (show (63 : Nat) ≠ 70 by decide)).trans (setA_ne (v := mV 59 70 μ) (j := 16) (q := 9) (i := i) (x := x) (by decide)).symm
  | 10 => exact (gA_nk μ i x (show (64 : Nat) ≠ 70 by decide)).trans (setA_ne (v := mV 59 70 μ) (j := 16) (q := 10) (i := i) (x := x) (by decide)).symm
  | 11 => exact (gA_nk μ i x (show (65 : Nat) ≠ 70 by decide)).trans (setA_ne (v := mV 59 70 μ) (j := 16) (q := 11) (i := i) (x := x) (by decide)).symm
  | 12 => exact (gA_nk μ i x (show (66 : Nat) ≠ 70 by decide)).trans (setA_ne (v := mV 59 70 μ) (j := 16) (q := 12) (i := i) (x := x) (by decide)).symm
  | 13 => exact (gA_nk μ i x (show (67 : Nat) ≠ 70 by decide)).trans (setA_ne (v := mV 59 70 μ) (j := 16) (q := 13) (i := i) (x := x) (by decide)).symm
  | 14 => exact (gA_nk μ i x (show (68 : Nat) ≠ 70 by decide)).trans (setA_ne (v := mV 59 70 μ) (j := 16) (q := 14) (i := i) (x := x) (by decide)).symm
  | 15 => exact (gA_nk μ i x (show (69 : Nat) ≠ 70 by decide)).trans (setA_ne (v := mV 59 70 μ) (j := 16) (q := 15) (i := i) (x := x) (by decide)).symm
  | q + 16 => exact (funext fun i' => (gA_at μ 70 i i' x)).trans (setA_hi (v := mV 59 70 μ) (q := q) (i := i) (x := x)).symm
theorem cVn0 (μ : GM) (x : Int) : cV 22 (gF μ 1 0 x) = setN (cV 22 μ) 0 x := by
  refine lv_ext (fun q => rfl) (fun q => ?_)
  match q with
  | 0 => exact (gF_same μ 1 0 x).trans (setN_eq (v := cV 22 μ) (j := 0) (q := 0) (x := x) (by decide)).symm
  | 1 => exact (gF_ne μ x (show ¬ ((5 : Nat) = 1 ∧ (0 : Nat) = 0) by decide)).trans (setN_ne (v := cV 22 μ) (j := 0) (q := 1) (x := x) (by decide)).symm
  | 2 => exact (gF_ne μ x (show ¬ ((9 : Nat) = 1 ∧ (0 : Nat) = 0) by decide)).trans (setN_ne (v := cV 22 μ) (j := 0) (q := 2) (x := x) (by decide)).symm
  | 3 => exact (gF_ne μ x (show ¬ ((14 : Nat) = 1 ∧ (0 : Nat) = 0) by decide)).trans (setN_ne (v := cV 22 μ) (j := 0) (q := 3) (x := x) (by decide)).symm
  | q + 4 => exact (gF_ne μ x (show ¬ ((18 : Nat) = 1 ∧ (0 : Nat) = 0) by decide)).trans (setN_ne (v := cV 22 μ) (j := 0) (q := q + 4) (x := x) (by rw [cap4_hi]; decide)).symm
theorem cVn1 (μ : GM) (x : Int) : cV 22 (gF μ 5 0 x) = setN (cV 22 μ) 1 x := by
  refine lv_ext (fun q => rfl) (fun q => ?_)
  match q with
  | 0 => exact (gF_ne μ x (show ¬ ((1 : Nat) = 5 ∧ (0 : Nat) = 0) by decide)).trans (setN_ne (v := cV 22 μ) (j := 1) (q := 0) (x := x) (by decide)).symm
  | 1 => exact (gF_same μ 5 0 x).trans (setN_eq (v := cV 22 μ) (j := 1) (q := 1) (x := x) (by decide)).symm
  | 2 => exact (gF_ne μ x (show ¬ ((9 : Nat) = 5 ∧ (0 : Nat) = 0) by decide)).trans (setN_ne (v := cV 22 μ) (j := 1) (q := 2) (x := x) (by decide)).symm
  | 3 => exact (gF_ne μ x (show ¬ ((14 : Nat) = 5 ∧ (0 : Nat) = 0) by decide)).trans (setN_ne (v := cV 22 μ) (j := 1) (q := 3) (x := x) (by decide)).symm
  | q + 4 => exact (gF_ne μ x (show ¬ ((18 : Nat) = 5 ∧ (0 : Nat) = 0) by decide)).trans (setN_ne (v := cV 22 μ) (j := 1) (q := q + 4) (x := x) (by rw [cap4_hi]; decide)).symm
theorem cVn2 (μ : GM) (x : Int) : cV 22 (gF μ 9 0 x) = setN (cV 22 μ) 2 x := by
  refine lv_ext (fun q => rfl) (fun q => ?_)
  match q with
  | 0 => exact (gF_ne μ x (show ¬ ((1 : Nat) = 9 ∧ (0 : Nat) = 0) by decide)).trans (setN_ne (v := cV 22 μ) (j := 2) (q := 0) (x := x) (by decide)).symm
  | 1 => exact (gF_ne μ x (show ¬ ((5 : Nat) = 9 ∧ (0 : Nat) = 0) by decide)).trans (setN_ne (v := cV 22 μ) (j := 2) (q := 1) (x := x) (by decide)).symm
  | 2 => exact (gF_same μ 9 0 x).trans (setN_eq (v := cV 22 μ) (j := 2) (q := 2) (x := x) (by decide)).symm
  | 3 => exact (gF_ne μ x (show ¬ ((14 : Nat) = 9 ∧ (0 : Nat) = 0) by decide)).trans (setN_ne (v := cV 22 μ) (j := 2) (q := 3) (x := x) (by decide)).symm
  | q + 4 => exact (gF_ne μ x (show ¬ ((18 : Nat) = 9 ∧ (0 : Nat) = 0) by decide)).trans (setN_ne (v := cV 22 μ) (j := 2) (q := q + 4) (x := x) (by rw [cap4_hi]; decide)).symm
theorem cVn3 (μ : GM) (x : Int) : cV 22 (gF μ 14 0 x) = setN (cV 22 μ) 3 x := by
  refine lv_ext (fun q => rfl) (fun q => ?_)
  match q with
  | 0 => exact (gF_ne μ x (show ¬ ((1 : Nat) = 14 ∧ (0 : Nat) = 0) by decide)).trans (setN_ne (v := cV 22 μ) (j := 3) (q := 0) (x := x) (by decide)).symm
  | 1 => exact (gF_ne μ x (show ¬ ((5 : Nat) = 14 ∧ (0 : Nat) = 0) by decide)).trans (setN_ne (v := cV 22 μ) (j := 3) (q := 1) (x := x) (by decide)).symm
  | 2 => exact (gF_ne μ x (show ¬ ((9 : Nat) = 14 ∧ (0 : Nat) = 0) by decide)).trans (setN_ne (v := cV 22 μ) (j := 3) (q := 2) (x := x) (by decide)).symm
  | 3 => exact (gF_same μ 14 0 x).trans (setN_eq (v := cV 22 μ) (j := 3) (q := 3) (x := x) (by decide)).symm
  | q + 4 => exact (gF_ne μ x (show ¬ ((18 : Nat) = 14 ∧ (0 : Nat) = 0) by decide)).trans (setN_ne (v := cV 22 μ) (j := 3) (q := q + 4) (x := x) (by rw [cap4_hi]; decide)).symm
theorem cVn4 (μ : GM) (x : Int) : cV 22 (gF μ 18 0 x) = setN (cV 22 μ) 4 x := by
  refine lv_ext (fun q => rfl) (fun q => ?_)
  match q with
  | 0 => exact (gF_ne μ x (show ¬ ((1 : Nat) = 18 ∧ (0 : Nat) = 0) by decide)).trans (setN_ne (v := cV 22 μ) (j := 4) (q := 0) (x := x) (by decide)).symm
  | 1 => exact (gF_ne μ x (show ¬ ((5 : Nat) = 18 ∧ (0 : Nat) = 0) by decide)).trans (setN_ne (v := cV 22 μ) (j := 4) (q := 1) (x := x) (by decide)).symm
  | 2 => exact (gF_ne μ x (show ¬ ((9 : Nat) = 18 ∧ (0 : Nat) = 0) by decide)).trans (setN_ne (v := cV 22 μ) (j := 4) (q := 2) (x := x) (by decide)).symm
  | 3 => exact (gF_ne μ x (show ¬ ((14 : Nat) = 18 ∧ (0 : Nat) = 0) by decide)).trans (setN_ne (v := cV 22 μ) (j := 4) (q := 3) (x := x) (by decide)).symm
  | q + 4 => exact (gF_same μ 18 0 x).trans (setN_eq (v := cV 22 μ) (j := 4) (q := q + 4) (x := x) (cap4_hi q)).symm
theorem mVn0 (μ : GM) (x : Int) : mV 59 70 (gF μ 53 1 x) = setN (mV 59 70 μ) 0 x := by
  refine lv_ext (fun q => rfl) (fun q => ?_)
  match q with
  | 0 => exact (gF_same μ 53 1 x).trans (setN_eq (v := mV 59 70 μ) (j := 0) (q := 0) (x := x) (by decide)).symm
  | 1 => exact (gF_ne μ x (show ¬ ((53 : Nat) = 53 ∧ (5 : Nat) = 1) by decide)).trans (setN_ne (v := mV 59 70 μ) (j := 0) (q := 1) (x := x) (by decide)).symm
  | 2 => exact (gF_ne μ x (show ¬ ((53 : Nat) = 53 ∧ (9 : Nat) = 1) by decide)).trans (setN_ne (v := mV 59 70 μ) (j := 0) (q := 2) (x := x) (by decide)).symm
  | 3 => exact (gF_ne μ x (show ¬ ((53 : Nat) = 53 ∧ (14 : Nat) = 1) by decide)).trans (setN_ne (v := mV 59 70 μ) (j := 0) (q := 3) (x := x) (by decide)).symm
  | q + 4 => exact (gF_ne μ x (show ¬ ((53 : Nat) = 53 ∧ (18 : Nat) = 1) by decide)).trans (setN_ne (v := mV 59 70 μ) (j := 0) (q := q + 4) (x := x) (by rw [cap4_hi]; decide)).symm
theorem mVn1 (μ : GM) (x : Int) : mV 59 70 (gF μ 53 5 x) = setN (mV 59 70 μ) 1 x := by
  refine lv_ext (fun q => rfl) (fun q => ?_)
  match q with
  | 0 => exact (gF_ne μ x (show ¬ ((53 : Nat) = 53 ∧ (1 : Nat) = 5) by decide)).trans (setN_ne (v := mV 59 70 μ) (j := 1) (q := 0) (x := x) (by decide)).symm
  | 1 => exact (gF_same μ 53 5 x).trans (setN_eq (v := mV 59 70 μ) (j := 1) (q := 1) (x := x) (by decide)).symm
  | 2 => exact (gF_ne μ x (show ¬ ((53 : Nat) = 53 ∧ (9 : Nat) = 5) by decide)).trans (setN_ne (v := mV 59 70 μ) (j := 1) (q := 2) (x := x) (by decide)).symm
  | 3 => exact (gF_ne μ x (show ¬ ((53 : Nat) = 53 ∧ (14 : Nat) = 5) by decide)).trans (setN_ne (v := mV 59 70 μ) (j := 1) (q := 3) (x := x) (by decide)).symm
  | q + 4 => exact (gF_ne μ x (show ¬ ((53 : Nat) = 53 ∧ (18 : Nat) = 5) by decide)).trans (setN_ne (v := mV 59 70 μ) (j := 1) (q := q + 4) (x := x) (by rw [cap4_hi]; decide)).symm
theorem mVn2 (μ : GM) (x : Int) : mV 59 70 (gF μ 53 9 x) = setN (mV 59 70 μ) 2 x := by
  refine lv_ext (fun q => rfl) (fun q => ?_)
  match q with
  | 0 => exact (gF_ne μ x (show ¬ ((53 : Nat) = 53 ∧ (1 : Nat) = 9) by decide)).trans (setN_ne (v := mV 59 70 μ) (j := 2) (q := 0) (x := x) (by decide)).symm
  | 1 => exact (gF_ne μ x (show ¬ ((53 : Nat) = 53 ∧ (5 : Nat) = 9) by decide)).trans (setN_ne (v := mV 59 70 μ) (j := 2) (q := 1) (x := x) (by decide)).symm
  | 2 => exact (gF_same μ 53 9 x).trans (setN_eq (v := mV 59 70 μ) (j := 2) (q := 2) (x := x) (by decide)).symm
  | 3 => exact (gF_ne μ x (show ¬ ((53 : Nat) = 53 ∧ (14 : Nat) = 9) by decide)).trans (setN_ne (v := mV 59 70 μ) (j := 2) (q := 3) (x := x) (by decide)).symm
  | q + 4 => exact (gF_ne μ x (show ¬ ((53 : Nat) = 53 ∧ (18 : Nat) = 9) by decide)).trans (setN_ne (v := mV 59 70 μ) (j := 2) (q := q + 4) (x := x) (by rw [cap4_hi]; decide)).symm
theorem mVn3 (μ : GM) (x : Int) : mV 59 70 (gF μ 53 14 x) = setN (mV 59 70 μ) 3 x := by
  refine lv_ext (fun q => rfl) (fun q => ?_)
  match q with
  | 0 => exact (gF_ne μ x (show ¬ ((53 : Nat) = 53 ∧ (1 : Nat) = 14) by decide)).trans (setN_ne (v := mV 59 70 μ) (j := 3) (q := 0) (x := x) (by decide)).symm
  | 1 => exact (gF_ne μ x (show ¬ ((53 : Nat) = 53 ∧ (5 : Nat) = 14) by decide)).trans (setN_ne (v := mV 59 70 μ) (j := 3) (q := 1) (x := x) (by decide)).symm
  | 2 => exact (gF_ne μ x (show ¬ ((53 : Nat) = 53 ∧ (9 : Nat) = 14) by decide)).trans (setN_ne (v := mV 59 70 μ) (j := 3) (q := 2) (x := x) (by decide)).symm
  | 3 => exact (gF_same μ 53 14 x).trans (setN_eq (v := mV 59 70 μ) (j := 3) (q := 3) (x := x) (by decide)).symm
  | q + 4 => exact (gF_ne μ x (show ¬ ((53 : Nat) = 53 ∧ (18 : Nat) = 14) by decide)).trans (setN_ne (v := mV 59 70 μ) (j := 3) (q := q + 4) (x := x) (by rw [cap4_hi]; decide)).symm
theorem mVn4 (μ : GM) (x : Int) : mV 59 70 (gF μ 53 18 x) = setN (mV 59 70 μ) 4 x := by
  refine lv_ext (fun q => rfl) (fun q => ?_)
  match q with
  | 0 => exact (gF_ne μ x (show ¬ ((53 : Nat) = 53 ∧ (1 : Nat) = 18) by decide)).trans (setN_ne (v := mV 59 70 μ) (j := 4) (q := 0) (x := x) (by decide)).symm
  | 1 => exact (gF_ne μ x (show ¬ ((53 : Nat) = 53 ∧ (5 : Nat) = 18) by decide)).trans (setN_ne (v := mV 59 70 μ) (j := 4) (q := 1) (x := x) (by decide)).symm
  | 2 => exact (gF_ne μ x (show ¬ ((53 : Nat) = 53 ∧ (9 : Nat) = 18) by decide)).trans (setN_ne (v := mV 59 70 μ) (j := 4) (q := 2) (x := x) (by decide)).symm
  | 3 => exact (gF_ne μ x (show ¬ ((53 : Nat) = 53 ∧ (14 : Nat) = 18) by decide)).trans (setN_ne (v := mV 59 70 μ) (j := 4) (q := 3) (x := x) (by decide)).symm
  | q + 4 => exact (gF_same μ 53 18 x).trans (setN_eq (v := mV 59 70 μ) (j := 4) (q := q + 4) (x := x) (cap4_hi q)).symm
theorem cVo (μ : GM) {k : Nat} (i x : Int) (hk : 23 ≤ k) : cV 22 (gA μ k i x) = cV 22 μ := by
  refine cV_keep (P := fun q => q = k) (F := nF) ((ofr.rfl (μ := μ)).a (Eq.refl k)) (fun q hq => by omega) (fun _ _ _ z => z) (by omega)
theorem cVof (μ : GM) {k j : Nat} (x : Int) (hk : 23 ≤ k) : cV 22 (gF μ k j x) = cV 22 μ := by
  refine cV_keep (P := fun _ => False) (F := fun q r => q = k ∧ r = j) ((ofr.rfl (μ := μ)).f ⟨rfl, rfl⟩) (fun q hq z => z) (fun q r hq z => by omega) (fun z => z)
theorem mVo (μ : GM) {k : Nat} (i x : Int) (hk : k < 54 ∨ 71 ≤ k) : mV 59 70 (gA μ k i x) = mV 59 70 μ := by
  refine mV_keep (P := fun q => q = k) (F := nF) ((ofr.rfl (μ := μ)).a (Eq.refl k)) (fun q hq hq2 => by omega) (fun _ _ _ z => z) (by omega) (by omega)
theorem mVof (μ : GM) {k j : Nat} (x : Int) (hk : k ≠ 53) : mV 59 70 (gF μ k j x) = mV 59 70 μ := by
  refine mV_keep (P := fun _ => False) (F := fun q r => q = k ∧ r = j) ((ofr.rfl (μ := μ)).f ⟨rfl, rfl⟩) (fun q hq hq2 z => z) (fun r _ hr z => by omega) (fun z => z) (fun z => z)
theorem mVo0 (μ : GM) (x : Int) : mV 59 70 (gF μ 53 0 x) = mV 59 70 μ := by
  refine mV_keep (P := fun _ => False) (F := fun q r => q = 53 ∧ r = 0) ((ofr.rfl (μ := μ)).f ⟨rfl, rfl⟩) (fun q hq hq2 z => z) (fun r _ hr z => by omega) (fun z => z) (fun z => z)
/-! a land that has changed -/
def PLd : Nat → Prop := fun k => k < 23 ∨ (54 ≤ k ∧ k ≤ 70) ∨ k = 95
def FLd : Nat → Nat → Prop := fun k j => (k < 23 ∧ j = 0) ∨ (k = 53 ∧ (j = 0 ∨ j = 1 ∨ j = 5 ∨ j = 9 ∨ j = 14 ∨ j = 18))
theorem bitF6 : ∀ (x : Fin 32) (R R' : Fin 4) (D D' : Fin 3), R.1 ≤ R'.1 → D.1 ≤ D'.1 → okb (x.1 : Int) (R.1 : Int) (D.1 : Int) = true → okb (x.1 : Int) (R'.1 : Int) (D'.1 : Int) = true := by decide +kernel
theorem okp_mono {v w : LV} (hv : wfL v) (hw : wfL w) (h2 : v.2 2 ≤ w.2 2) (h3 : v.2 3 ≤ w.2 3) {p : Int} (hp : okp v p) : okp w p := by
  obtain ⟨x, R, D, e1, e2, e3, -⟩ := okp_fin hv hp.1 hp.2.1
  obtain ⟨x', R', D', f1, f2, f3, -⟩ := okp_fin hw hp.1 hp.2.1
  have a := (okp_okb hp.1 hp.2.1).mp hp
  rw [e1, e2, e3] at a
  refine (okp_okb hp.1 hp.2.1).mpr ?_
  rw [e1, f2, f3]
  exact bitF6 x R R' D D' (by omega) (by omega) a
theorem cache_mat {v w : LV} (h : ∀ p, mat w p = mat v p) (h0 : w.2 0 = v.2 0) {t : Nat} {μ : GM} (hc : cacheOK v t μ) : cacheOK w t μ := by
  have n0 : nn w 0 = nn v 0 := by unfold nn; rw [h0]
  have hd : ∀ p, detv w p = detv v p := fun p => by unfold detv; rw [h, n0]
  intro z hz hne
  have a := hc z hz hne
  refine ⟨by rw [hd]; exact a.1, fun hn => ?_⟩
  rw [hd] at hn
  obtain ⟨m, h1, h2⟩ := a.2 hn
  refine ⟨m, ?_, by rw [n0]; exact h2⟩
  unfold adjOK at h1 ⊢
  rw [hd, h, n0]; exact h1
theorem cache_none {v : LV} {t : Nat} {μ : GM} (h : ∀ z : Nat, z < gSl t → μ.1 (t + 1) z = -10000009) : cacheOK v t μ := fun z hz hne => absurd (h z hz) hne
theorem mkInv {v w : LV} {μ ν : GM} (h : InvV v μ) (o : ofr PLd FLd μ ν) (hc : cV 22 ν = w) (hm : mV 59 70 ν = w) (wf : wfL w) (wx : wfX w) (hca : cacheOK w 94 ν) (h1 : v.2 1 ≤ w.2 1) (h2 : v.2 2 ≤ w.2 2) (h3 : v.2 3 ≤ w.2 3) : InvV w ν := by
  obtain ⟨⟨a1, a2, a3, a4⟩, ⟨b1, b2, b3⟩, ⟨c1, c2⟩, d, e, f, g, q⟩ := h
  have A : ∀ k, ¬ PLd k → ν.1 k = μ.1 k := o.1
  have F : ∀ k j, ¬ FLd k j → ν.2 k j = μ.2 k j := o.2
  have t28 := A 28 (by unfold PLd; omega)
  have t29 := A 29 (by unfold PLd; omega)
  have t32 := A 32 (by unfold PLd; omega)
  have t33 := A 33 (by unfold PLd; omega)
  have t34 := A 34 (by unfold PLd; omega)
  have t35 := A 35 (by unfold PLd; omega)
  have t43 := A 43 (by unfold PLd; omega)
  have t48 := A 48 (by unfold PLd; omega)
  have t79 := A 79 (by unfold PLd; omega)
  have t81 := A 81 (by unfold PLd; omega)
  have t82 := A 82 (by unfold PLd; omega)
  have t83 := A 83 (by unfold PLd; omega)
  have t84 := A 84 (by unfold PLd; omega)
  have t85 := A 85 (by unfold PLd; omega)
  have t86 := A 86 (by unfold PLd; omega)
  have t88 := A 88 (by unfold PLd; omega)
  have t92 := A 92 (by unfold PLd; omega)
  have u31 := F 31 2 (by unfold FLd; omega)
  have u37 := F 53 37 (by unfold FLd; omega)
  have u42 := F 42 2 (by unfold FLd; omega)
  have u44 := F 53 44 (by unfold FLd; omega)
  refine ⟨⟨hc, hm, wf, wx⟩, ⟨?_, hca, ?_⟩, ⟨?_, ?_⟩, ?_, ?_, ?_, ?_, ?_⟩
  · rw [F 94 1 (by unfold FLd; omega)]; exact b1
  · rw [F 94 8 (by unfold FLd; omega)]; exact okp_mono a3 wf h2 h3 b3
  · rw [F 132 1 (by unfold FLd; omega)]; exact c1
  · rw [F 132 8 (by unfold FLd; omega)]; exact okp_mono a3 wf h2 h3 c2
  · unfold CI; rw [t28, t29, t79, t81]; exact d
  · unfold WI; rw [u31, u37, t32, t33, t82, t83]
    exact ⟨e.1, e.2.1, e.2.2.1, e.2.2.2.1, fun w hw => by have := e.2.2.2.2 w hw; omega⟩
  · unfold SI; rw [t34, t35, t84, t85, t86]; exact f
  · unfold PI; rw [u42, u44, t43, t88]; exact g
  · unfold QI; rw [t48, t92]; exact q
theorem forget_spec (μ : GM) : Rt (f_X6_forget 94 μ) (fun _ μ1 => ofr (fun k => k = 95) nF μ μ1 ∧ ∀ z : Nat, z < 32 → μ1.1 95 z = -10000009) := by
  unfold f_X6_forget
  refine Rt_bd (fillI_spec (a := 94 + 1) (N := 32) (by decide +kernel) (by omega) (-10000009) μ) (fun _ μ1 ⟨k1, k2, _⟩ => Rt_some ⟨k1, k2⟩)
