/-! how large products with a given sum are -/
theorem sq_nn (x : Int) : 0 ≤ x * x := by
  rcases Int.le_total 0 x with h | h
  · exact Int.mul_nonneg h h
  · exact mul_np h h
theorem amgm2 (x y : Int) : 4 * (x * y) ≤ (x + y) * (x + y) := by
  have a := sq_nn (x - y)
  have b : (x - y) * (x - y) = (x + y) * (x + y) - 4 * (x * y) := by grind
  omega
theorem amgm3 {x y z : Int} (hx : 0 ≤ x) (hy : 0 ≤ y) (hz : 0 ≤ z) : 27 * (x * y * z) ≤ (x + y + z) * (x + y + z) * (x + y + z) := by
  have s : 0 ≤ x + y + z := by omega
  have a1 := Int.mul_nonneg s (sq_nn (x - y))
  have a2 := Int.mul_nonneg s (sq_nn (y - z))
  have a3 := Int.mul_nonneg s (sq_nn (z - x))
  have b1 := Int.mul_nonneg hx (sq_nn (y - z))
  have b2 := Int.mul_nonneg hy (sq_nn (z - x))
  have b3 := Int.mul_nonneg hz (sq_nn (x - y))
  have e : 2 * ((x + y + z) * (x + y + z) * (x + y + z) - 27 * (x * y * z)) = (x + y + z) * ((x - y) * (x - y)) + (x + y + z) * ((y - z) * (y - z)) + (x + y + z) * ((z - x) * (z - x)) + 6 * (x * ((y - z) * (y - z))) + 6 * (y * ((z - x) * (z - x))) + 6 * (z * ((x - y) * (x - y))) := by grind
  omega
theorem e2b (x y z : Int) : 3 * (x * y + y * z + z * x) ≤ (x + y + z) * (x + y + z) := by
  have a1 := sq_nn (x - y)
  have a2 := sq_nn (y - z)
  have a3 := sq_nn (z - x)
  have e : 2 * ((x + y + z) * (x + y + z) - 3 * (x * y + y * z + z * x)) = (x - y) * (x - y) + (y - z) * (y - z) + (z - x) * (z - x) := by grind
  omega
theorem mul_mono {a b c d : Int} (h1 : a ≤ b) (h2 : c ≤ d) (h3 : 0 ≤ c) (h4 : 0 ≤ b) : a * c ≤ b * d :=
  Int.le_trans (Int.mul_le_mul_of_nonneg_right h1 h3) (Int.mul_le_mul_of_nonneg_left h2 h4)
theorem mul3_nn {x y z : Int} (hx : 0 ≤ x) (hy : 0 ≤ y) (hz : 0 ≤ z) : 0 ≤ x * y * z := Int.mul_nonneg (Int.mul_nonneg hx hy) hz
/-- six numbers: 729 times their product by the two sums -/
theorem six_prod {x y z u v w t : Int} (hx : 0 ≤ x) (hy : 0 ≤ y) (hz : 0 ≤ z) (hu : 0 ≤ u) (hv : 0 ≤ v) (hw : 0 ≤ w) (ht : (x + y + z) * (u + v + w) ≤ t) : 729 * (x * y * z * (u * v * w)) ≤ t * t * t := by
  have a := amgm3 hx hy hz
  have b := amgm3 hu hv hw
  have s1 : 0 ≤ x + y + z := by omega
  have s2 : 0 ≤ u + v + w := by omega
  have n1 := mul3_nn hx hy hz
  have n2 := mul3_nn hu hv hw
  have c := mul_mono a b (by omega) (mul3_nn s1 s1 s1)
  have d0 := Int.mul_nonneg s1 s2
  have d1 := mul_mono ht ht d0 (by omega)
  have d2 := mul_mono d1 ht d0 (Int.mul_nonneg (by omega) (by omega))
  have e1 : 27 * (x * y * z) * (27 * (u * v * w)) = 729 * (x * y * z * (u * v * w)) := by grind
  have e2 : (x + y + z) * (x + y + z) * (x + y + z) * ((u + v + w) * (u + v + w) * (u + v + w)) = (x + y + z) * (u + v + w) * ((x + y + z) * (u + v + w)) * ((x + y + z) * (u + v + w)) := by grind
  omega
theorem six_e5 {x y z u v w t : Int} (hx : 0 ≤ x) (hy : 0 ≤ y) (hz : 0 ≤ z) (hu : 0 ≤ u) (hv : 0 ≤ v) (hw : 0 ≤ w) (ht : (x + y + z) * (u + v + w) ≤ t) : 81 * (x * y * z * (u * v + v * w + w * u) + u * v * w * (x * y + y * z + z * x)) ≤ t * t * (x + y + z + (u + v + w)) := by
  have a := amgm3 hx hy hz
  have b := amgm3 hu hv hw
  have a2 := e2b x y z
  have b2 := e2b u v w
  have s1 : 0 ≤ x + y + z := by omega
  have s2 : 0 ≤ u + v + w := by omega
  have m1 := Int.mul_nonneg hx hy
  have m2 := Int.mul_nonneg hy hz
  have m3 := Int.mul_nonneg hz hx
  have m4 := Int.mul_nonneg hu hv
  have m5 := Int.mul_nonneg hv hw
  have m6 := Int.mul_nonneg hw hu
  have c1 := mul_mono a b2 (by omega) (mul3_nn s1 s1 s1)
  have c2 := mul_mono b a2 (by omega) (mul3_nn s2 s2 s2)
  have d0 := Int.mul_nonneg s1 s2
  have d1 := mul_mono ht ht d0 (by omega)
  have d2 := Int.mul_le_mul_of_nonneg_right d1 (show 0 ≤ x + y + z + (u + v + w) by omega)
  have e1 : 27 * (x * y * z) * (3 * (u * v + v * w + w * u)) + 27 * (u * v * w) * (3 * (x * y + y * z + z * x)) = 81 * (x * y * z * (u * v + v * w + w * u) + u * v * w * (x * y + y * z + z * x)) := by grind
  have e2 : (x + y + z) * (x + y + z) * (x + y + z) * ((u + v + w) * (u + v + w)) + (u + v + w) * (u + v + w) * (u + v + w) * ((x + y + z) * (x + y + z)) = (x + y + z) * (u + v + w) * ((x + y + z) * (u + v + w)) * (x + y + z + (u + v + w)) := by grind
  omega
theorem half_sq {s t S : Int} (h0 : 0 ≤ s + t) (h : s + t ≤ S) : 4 * (s * t) ≤ S * S :=
  Int.le_trans (amgm2 s t) (mul_mono h h h0 (by omega))
theorem five_prod {x y z u v : Int} (hx : 0 ≤ x) (hy : 0 ≤ y) (hz : 0 ≤ z) (hu : 0 ≤ u) (hv : 0 ≤ v) (hs : x + y + z + u + v ≤ 266) : x * y * z * (u * v) ≤ 430000000 := by
  have h := half_sq (s := x + y + z) (t := u + v + 53) (S := 319) (by omega) (by omega)
  have a := six_prod (t := 25440) hx hy hz hu hv (show (0 : Int) ≤ 53 by omega) (by omega)
  have e : x * y * z * (u * v * 53) = 53 * (x * y * z * (u * v)) := by grind
  omega
def GG (A : Nat → Nat → Int) : Nat → Int
  | 0 => 1
  | k + 1 => (1 + A k k) * GG A k
def dgs (A : Nat → Nat → Int) : Prop := (∀ i, i < 6 → 0 ≤ A i i) ∧ A 0 0 + A 1 1 + A 2 2 + A 3 3 + A 4 4 + A 5 5 ≤ 261
theorem GG_le {A : Nat → Nat → Int} (hA : ∀ i, i < 6 → 0 ≤ A i i) : ∀ k, k ≤ 6 → PP A k + UU A k ≤ GG A k
  | 0, _ => show (1 : Int) + 0 ≤ 1 by decide
  | k + 1, hk => by
    have ih := GG_le hA k (by omega)
    have n := UU_nonneg hA k (by omega)
    have a := hA k (by omega)
    have c := Int.mul_le_mul_of_nonneg_left ih (show 0 ≤ 1 + A k k by omega)
    show A k k * PP A k + (A k k * UU A k + PP A k) ≤ (1 + A k k) * GG A k
    have e : (1 + A k k) * (PP A k + UU A k) = A k k * PP A k + A k k * UU A k + PP A k + UU A k := by grind
    omega
theorem GG_5 {A : Nat → Nat → Int} (h : dgs A) {k : Nat} (hk : k ≤ 5) : GG A k ≤ 430000000 := by
  obtain ⟨hA, hs⟩ := h
  have a0 := hA 0 (by omega)
  have a1 := hA 1 (by omega)
  have a2 := hA 2 (by omega)
  have a3 := hA 3 (by omega)
  have a4 := hA 4 (by omega)
  have a5 := hA 5 (by omega)
  match k, hk with
  | 0, _ => show (1 : Int) ≤ _; omega
  | 1, _ =>
    have := five_prod (x := 1 + A 0 0) (y := 1) (z := 1) (u := 1) (v := 1) (by omega) (by omega) (by omega) (by omega) (by omega) (by omega)
    show (1 + A 0 0) * 1 ≤ _
    grind
  | 2, _ =>
    have := five_prod (x := 1 + A 0 0) (y := 1 + A 1 1) (z := 1) (u := 1) (v := 1) (by omega) (by omega) (by omega) (by omega) (by omega) (by omega)
    show (1 + A 1 1) * ((1 + A 0 0) * 1) ≤ _
    grind
  | 3, _ =>
    have := five_prod (x := 1 + A 0 0) (y := 1 + A 1 1) (z := 1 + A 2 2) (u := 1) (v := 1) (by omega) (by omega) (by omega) (by omega) (by omega) (by omega)
    show (1 + A 2 2) * ((1 + A 1 1) * ((1 + A 0 0) * 1)) ≤ _
    grind
  | 4, _ =>
    have := five_prod (x := 1 + A 0 0) (y := 1 + A 1 1) (z := 1 + A 2 2) (u := 1 + A 3 3) (v := 1) (by omega) (by omega) (by omega) (by omega) (by omega) (by omega)
    show (1 + A 3 3) * ((1 + A 2 2) * ((1 + A 1 1) * ((1 + A 0 0) * 1))) ≤ _
    grind
  | 5, _ =>
    have := five_prod (x := 1 + A 0 0) (y := 1 + A 1 1) (z := 1 + A 2 2) (u := 1 + A 3 3) (v := 1 + A 4 4) (by omega) (by omega) (by omega) (by omega) (by omega) (by omega)
    show (1 + A 4 4) * ((1 + A 3 3) * ((1 + A 2 2) * ((1 + A 1 1) * ((1 + A 0 0) * 1)))) ≤ _
    grind
  | k + 6, h => omega
theorem PU_5 {A : Nat → Nat → Int} (h : dgs A) {k : Nat} (hk : k ≤ 5) : PP A k ≤ 430000000 ∧ UU A k ≤ 430000000 := by
  have a := GG_le h.1 k (by omega)
  have b := UU_nonneg h.1 k (by omega)
  have c := GG_5 h hk
  exact ⟨by omega, by omega⟩
theorem sum_two {A : Nat → Nat → Int} (h : dgs A) {j : Nat} (hj : j < 6) : A j j ≤ 261 := by
  obtain ⟨hA, hs⟩ := h
  have a0 := hA 0 (by omega)
  have a1 := hA 1 (by omega)
  have a2 := hA 2 (by omega)
  have a3 := hA 3 (by omega)
  have a4 := hA 4 (by omega)
  have a5 := hA 5 (by omega)
  match j, hj with
  | 0, _ => omega
  | 1, _ => omega
  | 2, _ => omega
  | 3, _ => omega
  | 4, _ => omega
  | 5, _ => omega
  | j + 6, h => omega
theorem PA_5 {A : Nat → Nat → Int} (h : dgs A) {k j : Nat} (hk : k ≤ 4) (hkj : k ≤ j) (hj : j < 6) : A j j * PP A k ≤ 430000000 := by
  have hjj := sum_two h hj
  obtain ⟨hA, hs⟩ := h
  have a0 := hA 0 (by omega)
  have a1 := hA 1 (by omega)
  have a2 := hA 2 (by omega)
  have a3 := hA 3 (by omega)
  have a4 := hA 4 (by omega)
  have a5 := hA 5 (by omega)
  have aj := hA j hj
  match k, hk with
  | 0, _ => show A j j * 1 ≤ _; omega
  | 1, _ =>
    have s : A 0 0 + A j j ≤ 262 := by
      match j, hj, hkj with
      | 1, _, _ => omega
      | 2, _, _ => omega
      | 3, _, _ => omega
      | 4, _, _ => omega
      | 5, _, _ => omega
    have := five_prod (x := A 0 0) (y := A j j) (z := 1) (u := 1) (v := 1) (by omega) (by omega) (by omega) (by omega) (by omega) (by omega)
    show A j j * (A 0 0 * 1) ≤ _
    grind
  | 2, _ =>
    have s : A 0 0 + A 1 1 + A j j ≤ 262 := by
      match j, hj, hkj with
      | 2, _, _ => omega
      | 3, _, _ => omega
      | 4, _, _ => omega
      | 5, _, _ => omega
    have := five_prod (x := A 0 0) (y := A 1 1) (z := A j j) (u := 1) (v := 1) (by omega) (by omega) (by omega) (by omega) (by omega) (by omega)
    show A j j * (A 1 1 * (A 0 0 * 1)) ≤ _
    grind
  | 3, _ =>
    have s : A 0 0 + A 1 1 + A 2 2 + A j j ≤ 262 := by
      match j, hj, hkj with
      | 3, _, _ => omega
      | 4, _, _ => omega
      | 5, _, _ => omega
    have := five_prod (x := A 0 0) (y := A 1 1) (z := A 2 2) (u := A j j) (v := 1) (by omega) (by omega) (by omega) (by omega) (by omega) (by omega)
    show A j j * (A 2 2 * (A 1 1 * (A 0 0 * 1))) ≤ _
    grind
  | 4, _ =>
    have s : A 0 0 + A 1 1 + A 2 2 + A 3 3 + A j j ≤ 262 := by
      match j, hj, hkj with
      | 4, _, _ => omega
      | 5, _, _ => omega
    have := five_prod (x := A 0 0) (y := A 1 1) (z := A 2 2) (u := A 3 3) (v := A j j) (by omega) (by omega) (by omega) (by omega) (by omega) (by omega)
    show A j j * (A 3 3 * (A 2 2 * (A 1 1 * (A 0 0 * 1)))) ≤ _
    grind
  | k + 5, h => omega
theorem PU_6 {A : Nat → Nat → Int} (h : dgs A) {n : Nat} (hn : n ≤ 6) : PP A n ≤ 6780000000 ∧ UU A n ≤ 934600000 := by
  by_cases q : n ≤ 5
  · have := PU_5 h q
    omega
  have e : n = 6 := by omega
  subst e
  obtain ⟨hA, hs⟩ := h
  have a0 := hA 0 (by omega)
  have a1 := hA 1 (by omega)
  have a2 := hA 2 (by omega)
  have a3 := hA 3 (by omega)
  have a4 := hA 4 (by omega)
  have a5 := hA 5 (by omega)
  have h := half_sq (s := A 0 0 + A 1 1 + A 2 2) (t := A 3 3 + A 4 4 + A 5 5) (S := 261) (by omega) (by omega)
  have b := six_prod (t := 17030) a0 a1 a2 a3 a4 a5 (by omega)
  have c := six_e5 (t := 17030) a0 a1 a2 a3 a4 a5 (by omega)
  have e1 : PP A 6 = A 0 0 * A 1 1 * A 2 2 * (A 3 3 * A 4 4 * A 5 5) := by
    show A 5 5 * (A 4 4 * (A 3 3 * (A 2 2 * (A 1 1 * (A 0 0 * 1))))) = _
    grind
  have e2 : UU A 6 = A 0 0 * A 1 1 * A 2 2 * (A 3 3 * A 4 4 + A 4 4 * A 5 5 + A 5 5 * A 3 3) + A 3 3 * A 4 4 * A 5 5 * (A 0 0 * A 1 1 + A 1 1 * A 2 2 + A 2 2 * A 0 0) := by
    show A 5 5 * (A 4 4 * (A 3 3 * (A 2 2 * (A 1 1 * (A 0 0 * 0 + 1) + A 0 0 * 1) + A 1 1 * (A 0 0 * 1)) + A 2 2 * (A 1 1 * (A 0 0 * 1))) + A 3 3 * (A 2 2 * (A 1 1 * (A 0 0 * 1)))) + A 4 4 * (A 3 3 * (A 2 2 * (A 1 1 * (A 0 0 * 1)))) = _
    grind
  rw [e1, e2]
  constructor
  · omega
  · omega
theorem abs_of {x b : Int} (h1 : -b ≤ x) (h2 : x ≤ b) : -b ≤ x ∧ x ≤ b := ⟨h1, h2⟩
theorem BI.ent {n : Nat} {A : Nat → Nat → Int} (hA : lapm n A) (hd : dgs A) {k : Nat} {D : Int} {m : Nat → Nat → Int} (h : BI n A k D m) (hk : k < n) (hn : n ≤ 6) {i j : Nat} (hi : i < n) (hj : j < n) (hne : i ≠ k ∨ j ≠ k) : -430000000 ≤ m i j ∧ m i j ≤ 430000000 := by
  have u := PU_5 hd (show k ≤ 5 by omega)
  have hDP := h.2.2.2.2.2.2.2.2.1
  have hD := h.1.1
  by_cases q1 : i < k
  · by_cases q2 : j < k
    · have a := h.2.2.2.2.1 i j hi hj q1 q2
      have b := h.2.2.2.2.2.2.2.2.2 i j hi hj q1 q2
      omega
    · have a := h.right_lo hi hj q1 (by omega)
      omega
  · by_cases q2 : j < k
    · have a := h.low_left hj hi q2 (by omega)
      omega
    · have a := h.corner hi hj (by omega) (by omega)
      have b := PA_5 hd (show k ≤ 4 by omega) (show k ≤ i by omega) (by omega)
      have c := Int.mul_le_mul_of_nonneg_left hDP (hd.1 i (by omega))
      omega
theorem BI.piv {n : Nat} {A : Nat → Nat → Int} (hA : lapm n A) (hd : dgs A) {k : Nat} {D : Int} {m : Nat → Nat → Int} (h : BI n A k D m) (hk : k < n) (hn : n ≤ 6) : 0 ≤ m k k ∧ m k k ≤ 6780000000 := by
  refine ⟨h.pivot_nonneg hk, ?_⟩
  have a := h.2.2.2.2.2.2.2.1 k (Nat.le_refl k) hk
  have c := Int.mul_le_mul_of_nonneg_left h.2.2.2.2.2.2.2.2.1 (hd.1 k (by omega))
  have d := (PU_6 hd (show k + 1 ≤ 6 by omega)).1
  have e : PP A (k + 1) = A k k * PP A k := rfl
  omega
