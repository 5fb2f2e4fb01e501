/-! floors, greatest common divisors -/
theorem glx_neg {x y : Int} (hx : r64 x) (hy : r64 y) : glxor x y < 0 ↔ ¬ (x < 0 ↔ y < 0) := by
  have e : glxor x y = ((Int64.ofInt x).toBitVec ^^^ (Int64.ofInt y).toBitVec).toInt := rfl
  have h1 : (Int64.ofInt x).toBitVec.toInt = x := ti64 hx
  have h2 : (Int64.ofInt y).toBitVec.toInt = y := ti64 hy
  have a : ∀ z : BitVec 64, (z.msb = true ↔ z.toInt < 0) := fun z => by
    rw [BitVec.msb_eq_toInt, decide_eq_true_eq]
  have b := BitVec.msb_xor (x := (Int64.ofInt x).toBitVec) (y := (Int64.ofInt y).toBitVec)
  have c := a ((Int64.ofInt x).toBitVec ^^^ (Int64.ofInt y).toBitVec)
  have d1 := a (Int64.ofInt x).toBitVec
  have d2 := a (Int64.ofInt y).toBitVec
  rw [h1] at d1
  rw [h2] at d2
  rw [e, ← c, b, ← d1, ← d2]
  cases (Int64.ofInt x).toBitVec.msb <;> cases (Int64.ofInt y).toBitVec.msb <;> simp
theorem tdiv_r64 {X D : Int} (hX : r64 X) (hD : 0 < D) : r64 (X.tdiv D) := by
  have h := abs_tdiv (x := X) (D := D) (b := 9223372036854775808) hX.1 (by have := hX.2; omega)
  refine ⟨h.1, ?_⟩
  by_cases q : X < 0
  · have b : X.tdiv D ≤ 0 := by
      have := Int.tdiv_eq_ediv (a := X) (b := D)
      rw [Int.sign_eq_one_of_pos hD] at this
      have c : X / D < 0 := Int.ediv_neg_of_neg_of_pos q hD
      split at this <;> omega
    omega
  · have h2 : X.tdiv D ≤ X := by
      have e : X.tdiv D = X / D := tdiv_pos (by omega)
      rw [e]
      exact Int.ediv_le_self D (by omega)
    have := hX.2
    omega
theorem emod_le_x {X D : Int} (hX : 0 ≤ X) (hD : 0 < D) : X % D ≤ X := by
  have a := Int.mul_ediv_add_emod X D
  have b := Int.mul_nonneg (show 0 ≤ D by omega) (Int.ediv_nonneg hX (show 0 ≤ D by omega))
  omega
theorem ck_pos {α : Type} {c : Prop} [Decidable c] {x : Option α} (h : c) : ck c x = x := if_pos h
theorem floorDiv_eq {X D : Int} (hX : r64 X) (hD : 0 < D) (hD2 : r64 D) (μ : GM) : f_J9_floorDiv_f86c9 X D μ = some (X / D, μ) := by
  unfold f_J9_floorDiv_f86c9 ck lt
  rw [if_pos (by omega), w64_id (tdiv_r64 hX hD)]
  dsimp only
  have e := Int.tdiv_eq_ediv (a := X) (b := D)
  rw [Int.sign_eq_one_of_pos hD] at e
  have g := glx_neg hX hD2
  have mt : X.tdiv D * D = X - X.tmod D := by rw [Int.tmod_def, Int.mul_comm]; omega
  have tm := r64_rem D hX
  have tmb : (0 ≤ X → 0 ≤ X.tmod D ∧ X.tmod D ≤ X) ∧ (X < 0 → X.tmod D ≤ 0 ∧ X ≤ X.tmod D) := by
    refine ⟨fun h => ?_, fun h => ?_⟩
    · rw [tmod_pos h]
      exact ⟨Int.emod_nonneg _ (by omega), emod_le_x h hD⟩
    · have := Int.tmod_nonneg D (show 0 ≤ -X by omega)
      have h2 : (-X).tmod D ≤ -X := by rw [tmod_pos (by omega)]; exact emod_le_x (by omega) hD
      rw [Int.neg_tmod] at this h2
      omega
  by_cases q : X < 0
  · rw [if_pos (g.mpr (by omega))]
    have r := tmb.2 q
    have hx := hX.1
    rw [w64i (by omega) (by omega)]
    by_cases d : D ∣ X
    · rw [if_pos (Or.inr d)] at e
      have z : X.tmod D = 0 := Int.tmod_eq_zero_of_dvd d
      rw [if_pos (by omega), e, Int.add_zero]
    · rw [if_neg (by omega)] at e
      have z : X.tmod D ≠ 0 := fun z => d (Int.dvd_of_tmod_eq_zero z)
      rw [if_neg (by omega)]
      have t := tdiv_r64 hX hD
      have c : X / D < 0 := Int.ediv_neg_of_neg_of_pos q hD
      have c2 : -9223372036854775808 ≤ X / D := by
        have := Int.mul_ediv_add_emod X D
        have := Int.emod_nonneg X (show D ≠ 0 by omega)
        have h4 := Int.emod_lt_of_pos X hD
        have hx1 := hX.1
        have h8 : (D - 1) * (X / D + 1) ≤ 0 := mul_pn (by omega) (by omega)
        have h9 : (D - 1) * (X / D + 1) = D * (X / D) + D - X / D - 1 := by grind
        omega
      rw [w64i (by omega) (by omega)]
      congr 2
      omega
  · rw [if_neg (fun z => g.mp z (by omega))]
    rw [if_pos (by omega)] at e
    rw [e, Int.add_zero]
theorem down_eq {X D : Int} (h1 : -9000000000000000000 ≤ X) (h2 : X ≤ 9000000000000000000) (hD : 0 < D) (hD2 : D ≤ 100000000000000000) (μ : GM) : f_X12_down X D μ = some (X / D, μ) := by
  have hX : r64 X := ⟨by omega, by omega⟩
  have e := Int.mul_ediv_add_emod X D
  have m0 := Int.emod_nonneg X (show D ≠ 0 by omega)
  have m1 := Int.emod_lt_of_pos X hD
  have r64q : r64 (X / D) := by
    have f := floorDiv_eq hX hD ⟨by omega, by omega⟩ μ
    have t := Int.tdiv_eq_ediv (a := X) (b := D)
    rw [Int.sign_eq_one_of_pos hD] at t
    have b := abs_tdiv (x := X) (D := D) (b := 9000000000000000000) h1 h2
    exact ⟨by split at t <;> omega, by split at t <;> omega⟩
  have hr : (X.tmod D < 0 → X.tmod D + D = X % D) ∧ (¬ X.tmod D < 0 → X.tmod D = X % D) := by
    have t1 : X.tmod D = X - D * X.tdiv D := Int.tmod_def X D
    have t := Int.tdiv_eq_ediv (a := X) (b := D)
    rw [Int.sign_eq_one_of_pos hD] at t
    by_cases q : 0 ≤ X ∨ D ∣ X
    · rw [if_pos q, Int.add_zero] at t
      rw [t] at t1
      exact ⟨fun h => by omega, fun _ => by omega⟩
    · rw [if_neg q] at t
      have t2 : D * X.tdiv D = D * (X / D) + D := by rw [t, Int.mul_add, Int.mul_one]
      exact ⟨fun _ => by omega, fun h => by omega⟩
  unfold f_X12_down ck lt
  rw [if_pos (by omega)]
  dsimp only
  have dv : ∀ y, y = D * (X / D) → w64 (y.tdiv D) = X / D := fun y hy => by
    rw [hy, Int.mul_tdiv_cancel_left _ (by omega), w64_id r64q]
  by_cases q : X.tmod D < 0
  · have a := hr.1 q
    rw [if_pos q, if_pos (by omega), w64i (x := X.tmod D + D) (by omega) (by omega), w64i (x := X - (X.tmod D + D)) (by omega) (by omega), dv _ (by omega)]
  · have a := hr.2 q
    rw [if_neg q, if_pos (by omega), w64i (x := X - X.tmod D) (by omega) (by omega), dv _ (by omega)]
def mil (x D : Int) : Int := w32 (1000 * x / D)
theorem cmil_eq {x D : Int} (h1 : -9000000000000000 ≤ x) (h2 : x ≤ 9000000000000000) (hD : 0 < D) (hD2 : D ≤ 100000000000000000) (μ : GM) : f_X11_milliOf x D μ = some (mil x D, μ) := by
  unfold f_X11_milliOf
  rw [if_neg (by omega), w64i (by omega) (by omega), floorDiv_eq ⟨by omega, by omega⟩ hD ⟨by omega, by omega⟩]
  rfl
theorem clmil_eq {x D : Int} (h1 : -9000000000000000 ≤ x) (h2 : x ≤ 9000000000000000) (hD : 0 < D) (hD2 : D ≤ 100000000000000000) (μ : GM) : f_X11_longMilliOf x D μ = some (1000 * x / D, μ) := by
  unfold f_X11_longMilliOf
  rw [if_neg (by omega), w64i (by omega) (by omega), floorDiv_eq ⟨by omega, by omega⟩ hD ⟨by omega, by omega⟩]
  rfl
theorem mmil_eq {x D : Int} (h1 : -9000000000000000 ≤ x) (h2 : x ≤ 9000000000000000) (hD : 0 < D) (hD2 : D ≤ 100000000000000000) {μ : GM} (hl : μ.2 53 24 = D) : f_X12_milliOf x μ = some (mil x D, μ) := by
  unfold f_X12_milliOf
  rw [hl, w64i (by omega) (by omega), down_eq (by omega) (by omega) hD hD2]
  rfl
/-! greatest common divisor within a hundred steps -/
def fbp : Nat → Nat × Nat
  | 0 => (0, 1)
  | n + 1 => ((fbp n).2, (fbp n).1 + (fbp n).2)
def fb (n : Nat) : Nat := (fbp n).1
theorem fb_two (n : Nat) : fb (n + 2) = fb n + fb (n + 1) := rfl
theorem fb_mono : ∀ n, fb n ≤ fb (n + 1)
  | 0 => by decide
  | 1 => by decide
  | n + 2 => by
    have := fb_two (n + 1)
    have h : fb (n + 2 + 1) = fb (n + 1) + fb (n + 2) := this
    omega
theorem cgcd_loop (μ : GM) : ∀ (n i a b fuel : Nat), i + n ≤ 100 → n < fuel → b ≤ a → (a < fb (n + 2) ∨ b < fb (n + 1)) → k_X11_commonDivisor_3 fuel (a : Int) (b : Int) (i : Int) μ = some (((Nat.gcd a b : Nat) : Int), μ)
  | n, i, a, b, 0, h1, h2, h3, h4 => by omega
  | 0, i, a, b, f + 1, h1, h2, h3, h4 => by
    have hb : b = 0 := by
      have e1 : fb (0 + 2) = 1 := rfl
      have e2 : fb (0 + 1) = 1 := rfl
      omega
    subst hb
    rw [k_X11_commonDivisor_3, Nat.gcd_zero_right]
    by_cases q : (i : Int) < 100
    · rw [if_pos q, if_pos (show ((0 : Nat) : Int) = 0 from rfl)]
    · rw [if_neg q]
  | n + 1, i, a, b, f + 1, h1, h2, h3, h4 => by
    rw [k_X11_commonDivisor_3]
    rw [if_pos (by omega)]
    by_cases q : b = 0
    · subst q
      rw [if_pos (show ((0 : Nat) : Int) = 0 from rfl), Nat.gcd_zero_right]
    · rw [if_neg (by omega)]
      unfold ck lt
      dsimp only
      rw [if_pos (by omega), w32s (by omega), tmod_pos (by omega), show (a : Int) % (b : Int) = ((a % b : Nat) : Int) by omega]
      have hm := Nat.mod_lt a (show 0 < b by omega)
      rw [cgcd_loop μ n (i + 1) b (a % b) f (by omega) (by omega) (by omega) (by
        have e := fb_two (n + 1)
        have e' : fb (n + 1 + 2) = fb (n + 1) + fb (n + 2) := e
        by_cases c : b < fb (n + 2)
        · exact Or.inl c
        · right
          have d : a % b ≤ a - b := by
            rw [Nat.mod_eq_sub_mod h3]
            exact Nat.mod_le _ _
          omega)]
      rw [Nat.gcd_comm a b, Nat.gcd_rec b a, Nat.gcd_comm]
theorem mgcd_loop (μ : GM) : ∀ (n a b fuel : Nat), n < fuel → b ≤ a → (a < fb (n + 2) ∨ b < fb (n + 1)) → 0 < a → k_X12_common_28 fuel (a : Int) (b : Int) μ = some (((Nat.gcd a b : Nat) : Int), μ)
  | n, a, b, 0, h2, h3, h4, _ => by omega
  | 0, a, b, f + 1, h2, h3, h4, h5 => by
    have hb : b = 0 := by
      have e1 : fb (0 + 2) = 1 := rfl
      have e2 : fb (0 + 1) = 1 := rfl
      omega
    subst hb
    rw [k_X12_common_28, Nat.gcd_zero_right, if_pos (show ((0 : Nat) : Int) = 0 from rfl), if_neg (by omega)]
  | n + 1, a, b, f + 1, h2, h3, h4, h5 => by
    rw [k_X12_common_28]
    by_cases q : b = 0
    · subst q
      rw [if_pos (show ((0 : Nat) : Int) = 0 from rfl), Nat.gcd_zero_right, if_neg (by omega)]
    · rw [if_neg (by omega)]
      unfold ck lt
      dsimp only
      rw [if_pos (by omega), tmod_pos (by omega), show (a : Int) % (b : Int) = ((a % b : Nat) : Int) by omega]
      have hm := Nat.mod_lt a (show 0 < b by omega)
      rw [mgcd_loop μ n b (a % b) f (by omega) (by omega) (by
        have e := fb_two (n + 1)
        have e' : fb (n + 1 + 2) = fb (n + 1) + fb (n + 2) := e
        by_cases c : b < fb (n + 2)
        · exact Or.inl c
        · right
          have d : a % b ≤ a - b := by
            rw [Nat.mod_eq_sub_mod h3]
            exact Nat.mod_le _ _
          omega) (by omega)]
      rw [Nat.gcd_comm a b, Nat.gcd_rec b a, Nat.gcd_comm]
theorem fb_big : 9223372036854775808 < fb 98 := by decide +kernel
theorem fb_98 : fb 98 ≤ fb (97 + 2) := Nat.le_trans (fb_mono 98) (Nat.le_refl _)
theorem cgcd_eq {a b : Nat} (hb : b < 9223372036854775808) (μ : GM) : f_X11_commonDivisor (a : Int) (b : Int) μ = some (((Nat.gcd a b : Nat) : Int), μ) := by
  unfold f_X11_commonDivisor
  by_cases q : b ≤ a
  · exact cgcd_loop μ 97 0 a b FU (by omega) (by decide) q (Or.inr (by have := fb_big; exact Nat.lt_trans hb this))
  · show k_X11_commonDivisor_3 (4999 + 1) (a : Int) (b : Int) 0 μ = _
    rw [k_X11_commonDivisor_3, if_pos (by decide), if_neg (by omega)]
    unfold ck lt
    dsimp only
    rw [if_pos (by omega), tmod_pos (by omega), show (a : Int) % (b : Int) = (a : Int) from Int.emod_eq_of_lt (by omega) (by omega), show w32 (0 + 1) = ((1 : Nat) : Int) from rfl]
    rw [cgcd_loop μ 97 1 b a 4999 (by omega) (by omega) (by omega) (Or.inl (by have := fb_big; have := fb_98; omega)), Nat.gcd_comm]
theorem mgcd_eq {a b : Nat} (hb0 : 0 < b) (hb : b < 9223372036854775808) (μ : GM) : k_X12_common_28 FU (a : Int) (b : Int) μ = some (((Nat.gcd a b : Nat) : Int), μ) := by
  by_cases q : b ≤ a
  · exact mgcd_loop μ 97 a b FU (by decide) q (Or.inr (by have := fb_big; exact Nat.lt_trans hb this)) (by omega)
  · show k_X12_common_28 (4999 + 1) (a : Int) (b : Int) μ = _
    rw [k_X12_common_28, if_neg (by omega)]
    unfold ck lt
    dsimp only
    rw [if_pos (by omega), tmod_pos (by omega), show (a : Int) % (b : Int) = (a : Int) from Int.emod_eq_of_lt (by omega) (by omega)]
    rw [mgcd_loop μ 97 b a 4999 (by omega) (by omega) (Or.inl (by have := fb_big; have := fb_98; omega)) hb0, Nat.gcd_comm]
def tld (x y u : Int) : Int := if u = 0 then w64 (y.tdiv ((Nat.gcd x.natAbs y.natAbs : Nat) : Int)) else w64 (x.tdiv ((Nat.gcd x.natAbs y.natAbs : Nat) : Int))
theorem least_eq {x y : Int} (u : Int) (hx1 : -9000000000000000000 ≤ x) (hx2 : x ≤ 9000000000000000000) (hy1 : 0 < y) (hy2 : y ≤ 9000000000000000000) (μ : GM) : f_X11_leastTerm x y u μ = some (tld x y u, μ) := by
  have g0 : 0 < Nat.gcd x.natAbs y.natAbs := Nat.gcd_pos_of_pos_right _ (by omega)
  have ha : f_J9_abs_067f4 x μ = some (((x.natAbs : Nat) : Int), μ) := by
    unfold f_J9_abs_067f4
    by_cases q : x < 0
    · rw [if_pos q, w64i (by omega) (by omega), show -x = ((x.natAbs : Nat) : Int) by omega]
    · rw [if_neg q]
      congr 2
      omega
  have hg : f_X11_commonDivisor ((x.natAbs : Nat) : Int) y μ = some (((Nat.gcd x.natAbs y.natAbs : Nat) : Int), μ) := by
    have := cgcd_eq (a := x.natAbs) (b := y.natAbs) (by omega) μ
    rw [show ((y.natAbs : Nat) : Int) = y by omega] at this
    exact this
  unfold f_X11_leastTerm bd
  rw [ha]
  dsimp only
  rw [hg]
  dsimp only
  rw [if_neg (by omega)]
  unfold tld ck
  by_cases q : u = 0
  · rw [if_pos q, if_pos q, if_pos (by omega)]
  · rw [if_neg q, if_neg q, if_pos (by omega)]
theorem told_eq {x y : Int} (u : Int) (hx1 : -9000000000000000000 ≤ x) (hx2 : x ≤ 9000000000000000000) (hy1 : 0 < y) (hy2 : y ≤ 9000000000000000000) (μ : GM) : f_X12_told x y u μ = some (tld x y u, μ) := by
  have g0 : 0 < Nat.gcd x.natAbs y.natAbs := Nat.gcd_pos_of_pos_right _ (by omega)
  have hg : k_X12_common_28 FU ((x.natAbs : Nat) : Int) y μ = some (((Nat.gcd x.natAbs y.natAbs : Nat) : Int), μ) := by
    have := mgcd_eq (a := x.natAbs) (b := y.natAbs) (by omega) (by omega) μ
    rw [show ((y.natAbs : Nat) : Int) = y by omega] at this
    exact this
  have hc : f_X12_common x y μ = some (((Nat.gcd x.natAbs y.natAbs : Nat) : Int), μ) := by
    unfold f_X12_common k_X12_common_12
    rw [if_neg (show ¬ y < 0 by omega), if_neg (show ¬ y < 0 by omega)]
    by_cases q : x < 0
    · rw [if_pos q, w64i (by omega) (by omega), show -x = ((x.natAbs : Nat) : Int) by omega]; exact hg
    · rw [if_neg q]
      have e : x = ((x.natAbs : Nat) : Int) := by omega
      rw [← hg]
      congr 1
  unfold f_X12_told bd
  rw [hc]
  dsimp only
  unfold tld ck
  by_cases q : u = 0
  · rw [if_pos q, if_pos q, if_pos (by omega)]
  · rw [if_neg q, if_neg q, if_pos (by omega)]
