/-! power by squares -/
theorem cg_pow {p x y : Int} (h : cg p x y) : ∀ n : Nat, cg p (x ^ n) (y ^ n)
  | 0 => by rw [Int.pow_zero, Int.pow_zero]; exact cg_refl p 1
  | n + 1 => by rw [Int.pow_succ, Int.pow_succ]; exact cg_mul (cg_pow h n) h
theorem sq_lt {x y p : Int} (h1 : 0 ≤ x) (h2 : x < p) (h3 : 0 ≤ y) (h4 : y < p) (hp : p ≤ 2147483647) : 0 ≤ x * y ∧ x * y ≤ 4611686014132420609 := by
  have a := Int.mul_nonneg h1 h3
  have b := mul_mono (show x ≤ 2147483647 by omega) (show y ≤ 2147483647 by omega) h3 (by omega)
  omega
theorem power_loop {p : Int} (hp0 : 0 < p) (hp : p ≤ 2147483647) (μ : GM) : ∀ (n l : Nat) (r y : Int), l < 2 ^ n → l < 4611686018427387904 → 0 ≤ r → r < p → 0 ≤ y → y < p → Rt (k_X12_power_12 (n + 1) p r y (l : Int) μ) (fun r' μ' => μ' = μ ∧ 0 ≤ r' ∧ r' < p ∧ cg p r' (r * y ^ l))
  | 0, l, r, y, hl, _, hr0, hr, hy0, hy => by
    have e : l = 0 := by rw [Nat.pow_zero] at hl; omega
    subst e
    unfold k_X12_power_12
    refine Rt_neg (by omega) (Rt_some ⟨rfl, hr0, hr, ?_⟩)
    rw [Int.pow_zero, Int.mul_one]; exact cg_refl p r
  | n + 1, l, r, y, hl, hl2, hr0, hr, hy0, hy => by
    rw [k_X12_power_12]
    by_cases q0 : l = 0
    · subst q0
      refine Rt_neg (by omega) (Rt_some ⟨rfl, hr0, hr, ?_⟩)
      rw [Int.pow_zero, Int.mul_one]; exact cg_refl p r
    refine Rt_pos (by omega) (Rt_ck (by decide) ?_)
    have yy := sq_lt hy0 hy hy0 hy hp
    have ry := sq_lt hr0 hr hy0 hy hp
    have hdiv : w64 (Int.tdiv (l : Int) 2) = ((l / 2 : Nat) : Int) := by
      rw [tdiv_pos (by omega), w64i (by omega) (by omega)]; omega
    have hyy : Int.tmod (w64 (y * y)) p = y * y % p := by
      rw [w64i (by omega) (by omega), tmod_pos yy.1]
    have hl3 : l / 2 < 2 ^ n := by rw [Nat.pow_succ] at hl; omega
    have b1 := Int.emod_nonneg (y * y) (show p ≠ 0 by omega)
    have b2 := Int.emod_lt_of_pos (y * y) hp0
    have hmod : Int.tmod (l : Int) 2 = ((l % 2 : Nat) : Int) := by rw [tmod_pos (by omega)]; omega
    rw [hmod]
    refine Rt_if (fun q => Rt_ck (by omega) ?_) (fun q => ?_)
    · unfold k_X12_power_43
      refine Rt_ck (by omega) (Rt_lt (Rt_ck (by decide) (Rt_lt ?_)))
      rw [hdiv, hyy, w64i (by omega) (by omega), tmod_pos ry.1]
      have c1 := Int.emod_nonneg (r * y) (show p ≠ 0 by omega)
      have c2 := Int.emod_lt_of_pos (r * y) hp0
      refine (power_loop hp0 hp μ n (l / 2) (r * y % p) (y * y % p) hl3 (by omega) c1 c2 b1 b2).mono (fun r' μ' h => ⟨h.1, h.2.1, h.2.2.1, cg_trans h.2.2.2 ?_⟩)
      refine cg_trans (cg_mul (cg_emod p (r * y)) (cg_pow (cg_emod p (y * y)) (l / 2))) ?_
      have e : l = 2 * (l / 2) + 1 := by omega
      have e2 : r * y ^ l = r * y * (y * y) ^ (l / 2) := by
        have e3 : y ^ l = y ^ (2 * (l / 2) + 1) := by rw [← e]
        rw [e3, Int.pow_succ, Int.pow_mul, show y ^ 2 = y * y by rw [Int.pow_succ, Int.pow_succ, Int.pow_zero, Int.one_mul]]
        grind
      rw [e2]
      exact cg_refl p _
    · unfold k_X12_power_43
      refine Rt_ck (by omega) (Rt_lt (Rt_ck (by decide) (Rt_lt ?_)))
      rw [hdiv, hyy]
      refine (power_loop hp0 hp μ n (l / 2) r (y * y % p) hl3 (by omega) hr0 hr b1 b2).mono (fun r' μ' h => ⟨h.1, h.2.1, h.2.2.1, cg_trans h.2.2.2 ?_⟩)
      refine cg_trans (cg_mul (cg_refl p r) (cg_pow (cg_emod p (y * y)) (l / 2))) ?_
      have e : l = 2 * (l / 2) := by omega
      have e2 : r * y ^ l = r * (y * y) ^ (l / 2) := by
        have e3 : y ^ l = y ^ (2 * (l / 2)) := by rw [← e]
        rw [e3, Int.pow_mul, show y ^ 2 = y * y by rw [Int.pow_succ, Int.pow_succ, Int.pow_zero, Int.one_mul]]
      rw [e2]
      exact cg_refl p _
theorem power_spec {p : Int} (hp0 : 1 < p) (hp : p ≤ 2147483647) (μ : GM) {x : Int} (hx : 0 ≤ x) (l : Nat) (hl : l < 2147483648) : Rt (f_X12_power x (l : Int) p μ) (fun r' μ' => μ' = μ ∧ 0 ≤ r' ∧ r' < p ∧ cg p r' (x ^ l)) := by
  unfold f_X12_power
  refine Rt_ck (by omega) (Rt_lt ?_)
  rw [tmod_pos hx]
  have c1 := Int.emod_nonneg x (show p ≠ 0 by omega)
  have c2 := Int.emod_lt_of_pos x (show 0 < p by omega)
  have hb : l < 2 ^ 4999 := Nat.lt_of_lt_of_le (show l < 2 ^ 31 from hl) (Nat.pow_le_pow_right (by omega) (by omega))
  refine (power_loop (by omega) hp μ 4999 l 1 (x % p) hb (by omega) (by omega) hp0 c1 c2).mono (fun r' μ' h => ⟨h.1, h.2.1, h.2.2.1, cg_trans h.2.2.2 ?_⟩)
  rw [Int.one_mul]
  exact cg_pow (cg_emod p x) l
theorem inv_spec {q : Nat} (hq : prm q) (hq2 : q ≤ 2147483647) (μ : GM) {x : Int} (hx : 0 < x) (hx2 : x < q) : Rt (f_X12_power x (w64 ((q : Int) - 2)) (q : Int) μ) (fun r' μ' => μ' = μ ∧ 0 ≤ r' ∧ r' < q ∧ cg q (x * r') 1) := by
  have h2 := hq.1
  rw [w64i (by omega) (by omega), show (q : Int) - 2 = ((q - 2 : Nat) : Int) by omega]
  refine (power_spec (by omega) (by omega) μ (by omega) (q - 2) (by omega)).mono (fun r' μ' h => ⟨h.1, h.2.1, h.2.2.1, ?_⟩)
  exact cg_trans (cg_mul (cg_refl _ x) h.2.2.2) (fermat hq hx hx2)
