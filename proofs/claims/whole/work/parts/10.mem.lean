/-! memory: arrays by place and index, fields by place and slot; all numbers as Int -/
abbrev GM : Type := (Nat → Int → Int) × (Nat → Nat → Int)
def gA (μ : GM) (k : Nat) (i v : Int) : GM := (fun k' i' => if k' = k ∧ i' = i then v else μ.1 k' i', μ.2)
def gF (μ : GM) (k j : Nat) (v : Int) : GM := (μ.1, fun k' j' => if k' = k ∧ j' = j then v else μ.2 k' j')
def w32 (x : Int) : Int := (Int32.ofInt x).toInt
def w64 (x : Int) : Int := (Int64.ofInt x).toInt
def r32 (x : Int) : Prop := -2147483648 ≤ x ∧ x ≤ 2147483647
def r64 (x : Int) : Prop := -9223372036854775808 ≤ x ∧ x ≤ 9223372036854775807
abbrev vI (x : Int) : Value := .int (Int32.ofInt x)
abbrev vJ (x : Int) : Value := .long (Int64.ofInt x)
def gand (x y : Int) : Int := (Int32.ofInt x &&& Int32.ofInt y).toInt
def gor (x y : Int) : Int := (Int32.ofInt x ||| Int32.ofInt y).toInt
def gxor (x y : Int) : Int := (Int32.ofInt x ^^^ Int32.ofInt y).toInt
def gshl (x y : Int) : Int := (Int32.ofInt x <<< (Int32.ofInt y &&& 31)).toInt
def gshr (x y : Int) : Int := (Int32.ofInt x >>> (Int32.ofInt y &&& 31)).toInt
def gushr (x y : Int) : Int := ((Int32.ofInt x).toUInt32 >>> ((Int32.ofInt y).toUInt32 &&& Int32.toUInt32 31)).toInt32.toInt
def glxor (x y : Int) : Int := (Int64.ofInt x ^^^ Int64.ofInt y).toInt
theorem r32_toInt (x : Int32) : r32 x.toInt := by
  have h1 := x.toInt_lt
  have h2 := x.le_toInt
  exact ⟨by omega, by omega⟩
theorem r64_toInt (x : Int64) : r64 x.toInt := by
  have h1 := x.toInt_lt
  have h2 := x.le_toInt
  exact ⟨by omega, by omega⟩
theorem r32_w (x : Int) : r32 (w32 x) := r32_toInt _
theorem r64_w (x : Int) : r64 (w64 x) := r64_toInt _
theorem r32_r64 {x : Int} (h : r32 x) : r64 x := ⟨by have := h.1; omega, by have := h.2; omega⟩
theorem ti32 {x : Int} (h : r32 x) : (Int32.ofInt x).toInt = x := Int32.toInt_ofInt_of_le (by have := h.1; omega) (by have := h.2; omega)
theorem ti64 {x : Int} (h : r64 x) : (Int64.ofInt x).toInt = x := Int64.toInt_ofInt_of_le (by have := h.1; omega) (by have := h.2; omega)
theorem w32_id {x : Int} (h : r32 x) : w32 x = x := ti32 h
theorem w64_id {x : Int} (h : r64 x) : w64 x = x := ti64 h
theorem of_w32 (x : Int) : Int32.ofInt (w32 x) = Int32.ofInt x := Int32.ofInt_toInt _
theorem of_w64 (x : Int) : Int64.ofInt (w64 x) = Int64.ofInt x := Int64.ofInt_toInt _
theorem lt32 {x y : Int} (hx : r32 x) (hy : r32 y) : Int32.ofInt x < Int32.ofInt y ↔ x < y := by rw [Int32.lt_iff_toInt_lt, ti32 hx, ti32 hy]
theorem le32 {x y : Int} (hx : r32 x) (hy : r32 y) : Int32.ofInt x ≤ Int32.ofInt y ↔ x ≤ y := by rw [Int32.le_iff_toInt_le, ti32 hx, ti32 hy]
theorem eq32 {x y : Int} (hx : r32 x) (hy : r32 y) : Int32.ofInt x = Int32.ofInt y ↔ x = y := by rw [← Int32.toInt_inj, ti32 hx, ti32 hy]
theorem lt64 {x y : Int} (hx : r64 x) (hy : r64 y) : Int64.ofInt x < Int64.ofInt y ↔ x < y := by rw [Int64.lt_iff_toInt_lt, ti64 hx, ti64 hy]
theorem le64 {x y : Int} (hx : r64 x) (hy : r64 y) : Int64.ofInt x ≤ Int64.ofInt y ↔ x ≤ y := by rw [Int64.le_iff_toInt_le, ti64 hx, ti64 hy]
theorem eq64 {x y : Int} (hx : r64 x) (hy : r64 y) : Int64.ofInt x = Int64.ofInt y ↔ x = y := by rw [← Int64.toInt_inj, ti64 hx, ti64 hy]
theorem r32_0 : r32 0 := ⟨by decide, by decide⟩
theorem of0 : (0 : Int32) = Int32.ofInt 0 := rfl
theorem of0L : (0 : Int64) = Int64.ofInt 0 := rfl
theorem a32_div {x y : Int} (hx : r32 x) (hy : r32 y) : Int32.ofInt x / Int32.ofInt y = Int32.ofInt (w32 (x.tdiv y)) := by
  rw [of_w32]
  exact (Int32.ofInt_tdiv (show (-2147483648 : Int) ≤ x from hx.1) (show x ≤ (2147483647 : Int) from hx.2) (show (-2147483648 : Int) ≤ y from hy.1) (show y ≤ (2147483647 : Int) from hy.2)).symm
theorem a64_div {x y : Int} (hx : r64 x) (hy : r64 y) : Int64.ofInt x / Int64.ofInt y = Int64.ofInt (w64 (x.tdiv y)) := by
  rw [of_w64]
  exact (Int64.ofInt_tdiv (show (-9223372036854775808 : Int) ≤ x from hx.1) (show x ≤ (9223372036854775807 : Int) from hx.2) (show (-9223372036854775808 : Int) ≤ y from hy.1) (show y ≤ (9223372036854775807 : Int) from hy.2)).symm
theorem a32_rem {x y : Int} (hx : r32 x) (hy : r32 y) : Int32.ofInt x - Int32.ofInt x / Int32.ofInt y * Int32.ofInt y = Int32.ofInt (x.tmod y) := by
  rw [a32_div hx hy, of_w32, ← Int32.ofInt_mul, ← Int32.ofInt_sub, Int.tmod_def, Int.mul_comm]
theorem a64_rem {x y : Int} (hx : r64 x) (hy : r64 y) : Int64.ofInt x - Int64.ofInt x / Int64.ofInt y * Int64.ofInt y = Int64.ofInt (x.tmod y) := by
  rw [a64_div hx hy, of_w64, ← Int64.ofInt_mul, ← Int64.ofInt_sub, Int.tmod_def, Int.mul_comm]
theorem r_tmod_lo {x y lo hi : Int} (h1 : lo ≤ x) (h2 : x ≤ hi) (h0 : lo ≤ 0) (h3 : 0 ≤ hi) : lo ≤ x.tmod y ∧ x.tmod y ≤ hi := by
  by_cases hx : 0 ≤ x
  · have h4 : 0 ≤ x.tmod y := Int.tmod_nonneg y hx
    have h5 : x.tmod y ≤ x := by
      have h6 := Int.natAbs_tmod x y
      have h7 := Nat.mod_le x.natAbs y.natAbs
      omega
    omega
  · have h4 : 0 ≤ (-x).tmod y := Int.tmod_nonneg y (by omega)
    have h5 : (-x).tmod y ≤ -x := by
      have h6 := Int.natAbs_tmod (-x) y
      have h7 := Nat.mod_le (-x).natAbs y.natAbs
      omega
    rw [Int.neg_tmod] at h4 h5
    omega
theorem r32_rem {x : Int} (y : Int) (hx : r32 x) : r32 (x.tmod y) := r_tmod_lo hx.1 hx.2 (by decide) (by decide)
theorem r64_rem {x : Int} (y : Int) (hx : r64 x) : r64 (x.tmod y) := r_tmod_lo hx.1 hx.2 (by decide) (by decide)
theorem a32_and1 (x : Int) : Int32.ofInt x &&& 1 = Int32.ofInt (x % 2) := by
  rw [pk_and (Int32.ofInt x) (m := 1) 1 rfl]
  unfold nI
  rw [← Int32.ofInt_eq_ofNat]
  congr 1
  rw [Int32.toBitVec_ofInt, BitVec.toNat_ofInt]
  omega
theorem r32_b1 (x : Int) : r32 (x % 2) := ⟨by omega, by omega⟩

def gKT : List (Nat × Nat × Nat × List (Nat × Nat)) := [(5, 11, 0, [(3, 1), (3, 94), (3, 23), (3, 27), (3, 31), (3, 42), (3, 47)]),
  (5, 2, 0, [(0, 0), (3, 2), (3, 3), (3, 4), (3, 5), (3, 9), (3, 14), (3, 18)]),
  (0, 6, 0, []),
  (0, 6, 0, []),
  (0, 6, 0, []),
  (5, 3, 0, [(0, 0), (3, 6), (3, 7), (3, 8)]),
  (0, 12, 0, []),
  (0, 12, 0, []),
  (0, 12, 0, []),
  (5, 7, 0, [(0, 0), (3, 10), (3, 11), (3, 12), (3, 13)]),
  (0, 3, 0, []),
  (0, 3, 0, []),
  (0, 3, 0, []),
  (0, 3, 0, []),
  (5, 1, 0, [(0, 0), (3, 15), (3, 16), (3, 17)]),
  (0, 2, 0, []),
  (0, 2, 0, []),
  (0, 2, 0, []),
  (5, 9, 0, [(0, 0), (3, 19), (3, 20), (3, 21), (3, 22)]),
  (0, 3, 0, []),
  (0, 3, 0, []),
  (0, 3, 0, []),
  (0, 3, 0, []),
  (5, 8, 0, [(3, 1), (3, 94), (0, 0), (3, 24), (3, 25), (3, 26)]),
  (0, 20, 0, []),
  (2, 20, 0, []),
  (0, 6, 0, []),
  (5, 0, 0, [(3, 1), (3, 28), (3, 29), (3, 30)]),
  (0, 6, 0, []),
  (2, 6, 0, []),
  (0, 6, 0, []),
  (5, 10, 0, [(3, 1), (3, 132), (0, 0), (3, 32), (3, 33), (3, 34), (3, 35), (3, 36)]),
  (0, 5, 0, []),
  (0, 5, 0, []),
  (0, 6, 0, []),
  (0, 6, 0, []),
  (3, 5, 37, []),
  (0, 6, 0, []),
  (0, 6, 0, []),
  (0, 6, 0, []),
  (0, 6, 0, []),
  (0, 6, 0, []),
  (5, 4, 0, [(3, 1), (3, 94), (0, 0), (3, 43), (0, 0), (0, 0), (0, 0), (3, 44), (3, 45), (3, 46), (0, 0)]),
  (0, 200, 0, []),
  (1, 201, 0, []),
  (1, 201, 0, []),
  (1, 201, 0, []),
  (5, 5, 0, [(3, 1), (3, 94), (3, 42), (3, 48), (3, 49), (3, 50), (3, 51), (3, 52)]),
  (0, 6, 0, []),
  (0, 3, 0, []),
  (0, 3, 0, []),
  (0, 3, 0, []),
  (0, 8, 0, []),
  (5, 12, 0, [(0, 0), (0, 0), (3, 54), (3, 55), (3, 56), (0, 0), (3, 57), (3, 58), (3, 59), (0, 0), (3, 60), (3, 61), (3, 62), (3, 63), (0, 0), (3, 64), (3, 65), (3, 66), (0, 0), (3, 67), (3, 68), (3, 69), (3, 70), (3, 71), (2, 0), (0, 0), (3, 72), (3, 73), (3, 74), (3, 75), (3, 76), (0, 0), (3, 77), (3, 78), (3, 79), (3, 80), (3, 81), (0, 0), (3, 82), (3, 83), (3, 84), (3, 85), (3, 86), (3, 87), (0, 0), (3, 88), (3, 89), (3, 90), (3, 91), (3, 92), (0, 0), (0, 0), (0, 0), (3, 93)]),
  (0, 6, 0, []),
  (0, 6, 0, []),
  (0, 6, 0, []),
  (0, 12, 0, []),
  (0, 12, 0, []),
  (0, 12, 0, []),
  (0, 3, 0, []),
  (0, 3, 0, []),
  (0, 3, 0, []),
  (0, 3, 0, []),
  (0, 2, 0, []),
  (0, 2, 0, []),
  (0, 2, 0, []),
  (0, 3, 0, []),
  (0, 3, 0, []),
  (0, 3, 0, []),
  (0, 3, 0, []),
  (2, 6, 0, []),
  (0, 12, 0, []),
  (0, 3, 0, []),
  (2, 36, 0, []),
  (2, 6, 0, []),
  (2, 36, 0, []),
  (0, 20, 0, []),
  (2, 20, 0, []),
  (0, 6, 0, []),
  (0, 6, 0, []),
  (2, 6, 0, []),
  (0, 5, 0, []),
  (0, 5, 0, []),
  (1, 6, 0, []),
  (0, 6, 0, []),
  (0, 6, 0, []),
  (0, 30, 0, []),
  (0, 200, 0, []),
  (1, 201, 0, []),
  (1, 201, 0, []),
  (0, 201, 0, []),
  (0, 6, 0, []),
  (0, 6, 0, []),
  (5, 6, 0, [(3, 1), (0, 0), (3, 95), (3, 96), (3, 97), (3, 98), (3, 99), (2, 0), (0, 0)]),
  (0, 32, 0, []),
  (4, 32, 100, []),
  (2, 32, 0, []),
  (2, 6, 0, []),
  (2, 6, 0, []),
  (2, 36, 0, []),
  (2, 36, 0, []),
  (2, 36, 0, []),
  (2, 36, 0, []),
  (2, 36, 0, []),
  (2, 36, 0, []),
  (2, 36, 0, []),
  (2, 36, 0, []),
  (2, 36, 0, []),
  (2, 36, 0, []),
  (2, 36, 0, []),
  (2, 36, 0, []),
  (2, 36, 0, []),
  (2, 36, 0, []),
  (2, 36, 0, []),
  (2, 36, 0, []),
  (2, 36, 0, []),
  (2, 36, 0, []),
  (2, 36, 0, []),
  (2, 36, 0, []),
  (2, 36, 0, []),
  (2, 36, 0, []),
  (2, 36, 0, []),
  (2, 36, 0, []),
  (2, 36, 0, []),
  (2, 36, 0, []),
  (2, 36, 0, []),
  (2, 36, 0, []),
  (2, 36, 0, []),
  (2, 36, 0, []),
  (2, 36, 0, []),
  (2, 36, 0, []),
  (5, 6, 0, [(3, 1), (0, 0), (3, 133), (3, 134), (3, 135), (3, 136), (3, 137), (2, 0), (0, 0)]),
  (0, 1, 0, []),
  (4, 1, 138, []),
  (2, 1, 0, []),
  (2, 6, 0, []),
  (2, 6, 0, []),
  (2, 36, 0, [])]
theorem gKT_len : gKT.length = 139 := by decide +kernel
def gLen (k : Nat) : Nat := (gKT.getD k (9, 0, 0, [])).2.1
def gV (ad : Nat → Nat) (x : Int) (q : Nat × Nat) : Value := match q.1 with
  | 0 => .int (Int32.ofInt x)
  | 1 => .int (Int32.ofInt x)
  | 2 => .long (Int64.ofInt x)
  | _ => .ref (ad q.2)
def gFs (ad : Nat → Nat) (μ : GM) (k : Nat) (fl : List (Nat × Nat)) : List Value := fl.mapIdx (fun j q => gV ad (μ.2 k j) q)
def gCell (ad : Nat → Nat) (cT : Nat → ClassId) (μ : GM) (k : Nat) (e : Nat × Nat × Nat × List (Nat × Nat)) : va_E := match e.1 with
  | 0 => .inl (cT 0, e.2.1, .inl fun i => Int32.ofInt (μ.1 k i))
  | 1 => .inl (cT 1, e.2.1, .inl fun i => Int32.ofInt (μ.1 k i))
  | 2 => .inl (cT 2, e.2.1, .inr (.inl fun i => Int64.ofInt (μ.1 k i)))
  | 3 => .inl (cT 3, e.2.1, .inr (.inr (.inr (.inr fun i => if i < e.2.1 then some (ad (e.2.2.1 + i)) else none))))
  | 4 => .inl (cT 4, e.2.1, .inr (.inr (.inr (.inr fun i => if i < e.2.1 then some (ad (e.2.2.1 + i)) else none))))
  | _ => .inr (e.2.1, gFs ad μ k e.2.2.2)
def gWs (ad : Nat → Nat) (cT : Nat → ClassId) (μ : GM) : va_W := gKT.mapIdx (fun k e => (ad k, gCell ad cT μ k e))
def gTy (cT : Nat → ClassId) : List (ClassId × FieldType) := [(cT 0, .int), (cT 1, .boolean), (cT 2, .long), (cT 3, .array .int), (cT 4, .array .long)]
def gRA (k : Nat) (x : Int) : Prop := match (gKT.getD k (9, 0, 0, [])).1 with
  | 2 => r64 x
  | _ => r32 x
def gRF (k j : Nat) (x : Int) : Prop := match ((gKT.getD k (9, 0, 0, [])).2.2.2.getD j (9, 0)).1 with
  | 2 => r64 x
  | _ => r32 x
def gRg (μ : GM) : Prop := (∀ k i, gRA k (μ.1 k i)) ∧ ∀ k j, gRF k j (μ.2 k j)
theorem gRg.i {μ : GM} (h : gRg μ) {k : Nat} {t n b : Nat} {f : List (Nat × Nat)} (hk : gKT[k]? = some (t, n, b, f)) (ht : t ≠ 2) (i : Int) : r32 (μ.1 k i) := by
  have h1 := h.1 k i
  unfold gRA at h1
  have hg : gKT.getD k (9, 0, 0, []) = (t, n, b, f) := by rw [List.getD_eq_getElem?_getD, hk]; rfl
  rw [hg] at h1
  split at h1
  · rename_i e; exact absurd e ht
  · exact h1
theorem gRg.l {μ : GM} (h : gRg μ) {k : Nat} {n b : Nat} {f : List (Nat × Nat)} (hk : gKT[k]? = some (2, n, b, f)) (i : Int) : r64 (μ.1 k i) := by
  have h1 := h.1 k i
  unfold gRA at h1
  have hg : gKT.getD k (9, 0, 0, []) = (2, n, b, f) := by rw [List.getD_eq_getElem?_getD, hk]; rfl
  rw [hg] at h1
  exact h1
theorem gRg.fi {μ : GM} (h : gRg μ) {k j : Nat} {t n b : Nat} {f : List (Nat × Nat)} {q : Nat × Nat} (hk : gKT[k]? = some (t, n, b, f)) (hj : f[j]? = some q) (ht : q.1 ≠ 2) : r32 (μ.2 k j) := by
  have h1 := h.2 k j
  unfold gRF at h1
  have hg : gKT.getD k (9, 0, 0, []) = (t, n, b, f) := by rw [List.getD_eq_getElem?_getD, hk]; rfl
  have hf : f.getD j (9, 0) = q := by rw [List.getD_eq_getElem?_getD, hj]; rfl
  rw [hg] at h1
  dsimp only at h1
  rw [hf] at h1
  split at h1
  · rename_i e; exact absurd e ht
  · exact h1
theorem gRg.fl {μ : GM} (h : gRg μ) {k j : Nat} {t n b : Nat} {f : List (Nat × Nat)} {tg : Nat} (hk : gKT[k]? = some (t, n, b, f)) (hj : f[j]? = some (2, tg)) : r64 (μ.2 k j) := by
  have h1 := h.2 k j
  unfold gRF at h1
  have hg : gKT.getD k (9, 0, 0, []) = (t, n, b, f) := by rw [List.getD_eq_getElem?_getD, hk]; rfl
  have hf : f.getD j (9, 0) = (2, tg) := by rw [List.getD_eq_getElem?_getD, hj]; rfl
  rw [hg] at h1
  dsimp only at h1
  rw [hf] at h1
  exact h1
theorem gRA_r64 {k : Nat} {x : Int} (h : gRA k x) : r64 x := by
  unfold gRA at h
  split at h
  · exact h
  · exact r32_r64 h
theorem gRA.of32 (k : Nat) {x : Int} (h : r32 x) : gRA k x := by
  unfold gRA
  split
  · exact r32_r64 h
  · exact h
theorem gRF.of32 (k j : Nat) {x : Int} (h : r32 x) : gRF k j x := by
  unfold gRF
  split
  · exact r32_r64 h
  · exact h
theorem gRg.gA {μ : GM} (h : gRg μ) {k : Nat} {i v : Int} (hv : gRA k v) : gRg (gA μ k i v) := by
  refine ⟨fun k' i' => ?_, h.2⟩
  show gRA k' (if k' = k ∧ i' = i then v else μ.1 k' i')
  split
  · rename_i e; rw [e.1]; exact hv
  · exact h.1 k' i'
theorem gRg.gF {μ : GM} (h : gRg μ) {k j : Nat} {v : Int} (hv : gRF k j v) : gRg (gF μ k j v) := by
  refine ⟨h.1, fun k' j' => ?_⟩
  show gRF k' j' (if k' = k ∧ j' = j then v else μ.2 k' j')
  split
  · rename_i e; rw [e.1, e.2]; exact hv
  · exact h.2 k' j'
theorem gRA.l {k : Nat} {n b : Nat} {f : List (Nat × Nat)} (hk : gKT[k]? = some (2, n, b, f)) {x : Int} (h : r64 x) : gRA k x := by
  unfold gRA
  have hg : gKT.getD k (9, 0, 0, []) = (2, n, b, f) := by rw [List.getD_eq_getElem?_getD, hk]; rfl
  rw [hg]
  exact h
theorem gRF.l {k j : Nat} {t n b : Nat} {f : List (Nat × Nat)} {tg : Nat} (hk : gKT[k]? = some (t, n, b, f)) (hj : f[j]? = some (2, tg)) {x : Int} (h : r64 x) : gRF k j x := by
  unfold gRF
  have hg : gKT.getD k (9, 0, 0, []) = (t, n, b, f) := by rw [List.getD_eq_getElem?_getD, hk]; rfl
  have hf : f.getD j (9, 0) = (2, tg) := by rw [List.getD_eq_getElem?_getD, hj]; rfl
  rw [hg]
  dsimp only
  rw [hf]
  exact h
theorem gWs_at (ad : Nat → Nat) (cT : Nat → ClassId) (μ : GM) {k : Nat} {e : Nat × Nat × Nat × List (Nat × Nat)} (hk : gKT[k]? = some e) : (gWs ad cT μ)[k]? = some (ad k, gCell ad cT μ k e) := by
  unfold gWs
  rw [List.getElem?_mapIdx, hk]
  rfl
theorem gWs_len (ad : Nat → Nat) (cT : Nat → ClassId) (μ : GM) : (gWs ad cT μ).length = gKT.length := by
  unfold gWs
  rw [List.length_mapIdx]
/-- a store in one place: all others stay -/
theorem gWs_set (ad : Nat → Nat) (cT : Nat → ClassId) (μ μ' : GM) {k : Nat} {e : Nat × Nat × Nat × List (Nat × Nat)} (hk : gKT[k]? = some e) (h1 : ∀ k', k' ≠ k → μ'.1 k' = μ.1 k') (h2 : ∀ k', k' ≠ k → μ'.2 k' = μ.2 k') {x : va_E} (hx : x = gCell ad cT μ' k e) : (gWs ad cT μ).set k (ad k, x) = gWs ad cT μ' := by
  have hl : k < (gWs ad cT μ).length := by rw [gWs_len]; exact (List.getElem?_eq_some_iff.mp hk).1
  apply List.ext_getElem?
  intro q
  by_cases hq : q = k
  · subst hq
    rw [List.getElem?_set_self hl, gWs_at ad cT μ' hk, hx]
  · rw [List.getElem?_set_ne (Ne.symm hq)]
    unfold gWs
    rw [List.getElem?_mapIdx, List.getElem?_mapIdx]
    cases gKT[q]? with
    | none => rfl
    | some e' =>
      have : gCell ad cT μ' q e' = gCell ad cT μ q e' := by
        unfold gCell gFs
        rw [h1 q hq, h2 q hq]
      rw [Option.map_some, Option.map_some, this]
def gInj (ad : Nat → Nat) : Prop := ∀ i j : Nat, i < gKT.length → j < gKT.length → ad i = ad j → i = j
theorem gD_of {ad : Nat → Nat} {cT : Nat → ClassId} {μ : GM} {A : Nat → Prop} (hi : gInj ad) (hA : ∀ k, k < gKT.length → A (ad k)) : va_D A (gWs ad cT μ) := by
  have key : ∀ (i : Nat) (p : Nat × va_E), (gWs ad cT μ)[i]? = some p → i < gKT.length ∧ p.1 = ad i := by
    intro i p h
    have hl := (List.getElem?_eq_some_iff.mp h).1
    rw [gWs_len] at hl
    refine ⟨hl, ?_⟩
    have hg := gWs_at ad cT μ (List.getElem?_eq_getElem hl)
    rw [hg] at h
    cases h
    rfl
  refine ⟨fun i j p q h1 h2 h3 => ?_, fun k q h => ?_⟩
  · obtain ⟨a1, a2⟩ := key i p h1
    obtain ⟨b1, b2⟩ := key j q h2
    exact hi i j a1 b1 (by rw [← a2, ← b2]; exact h3)
  · obtain ⟨a1, a2⟩ := key k q h
    rw [a2]
    exact hA k a1
theorem gA_of {ad : Nat → Nat} {cT : Nat → ClassId} {μ μ' : GM} {sz q : Nat} (h : va_A (gWs ad cT μ) sz q) : va_A (gWs ad cT μ') sz q := by
  rcases h with ⟨k, e, h⟩ | h
  · have hl := (List.getElem?_eq_some_iff.mp h).1
    rw [gWs_len] at hl
    have hg := gWs_at ad cT μ (List.getElem?_eq_getElem hl)
    rw [hg] at h
    have e1 : ad k = q := congrArg Prod.fst (Option.some.inj h)
    exact Or.inl ⟨k, _, by rw [← e1]; exact gWs_at ad cT μ' (List.getElem?_eq_getElem hl)⟩
  · exact Or.inr h
theorem gA_in {ad : Nat → Nat} {cT : Nat → ClassId} {μ : GM} {sz k : Nat} (hk : k < gKT.length) : va_A (gWs ad cT μ) sz (ad k) := Or.inl ⟨k, _, gWs_at ad cT μ (List.getElem?_eq_getElem hk)⟩
