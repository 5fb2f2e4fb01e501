/-! Fermat's little theorem for the two primes -/
def bnm : Nat → Nat → Nat
  | _, 0 => 1
  | 0, _ + 1 => 0
  | n + 1, k + 1 => bnm n k + bnm n (k + 1)
theorem bnm_z (n : Nat) : bnm n 0 = 1 := by cases n <;> rfl
theorem bnm_s (n k : Nat) : bnm (n + 1) (k + 1) = bnm n k + bnm n (k + 1) := rfl
theorem bnm_abs : ∀ n k : Nat, (k + 1) * bnm (n + 1) (k + 1) = (n + 1) * bnm n k
  | 0, 0 => rfl
  | 0, k + 1 => by
    show (k + 1 + 1) * (0 + 0) = (0 + 1) * 0
    omega
  | n + 1, 0 => by
    have h := bnm_abs n 0
    rw [bnm_z] at h
    rw [bnm_s (n + 1) 0, bnm_z]
    omega
  | n + 1, k + 1 => by
    have h1 := bnm_abs n k
    have h2 := bnm_abs n (k + 1)
    have e1 := bnm_s n k
    rw [bnm_s (n + 1) (k + 1)]
    rw [Nat.mul_add, h2]
    have e3 : (k + 1 + 1) * bnm (n + 1) (k + 1) = (k + 1) * bnm (n + 1) (k + 1) + bnm (n + 1) (k + 1) := by rw [Nat.add_mul (k + 1) 1, Nat.one_mul]
    have e4 : (n + 1 + 1) * bnm (n + 1) (k + 1) = (n + 1) * bnm (n + 1) (k + 1) + bnm (n + 1) (k + 1) := by rw [Nat.add_mul (n + 1) 1, Nat.one_mul]
    have e5 : (n + 1) * bnm (n + 1) (k + 1) = (n + 1) * bnm n k + (n + 1) * bnm n (k + 1) := by rw [e1, Nat.mul_add]
    omega
theorem bnm_hi : ∀ n k : Nat, n < k → bnm n k = 0
  | 0, 0, h => by omega
  | 0, k + 1, _ => rfl
  | n + 1, 0, h => by omega
  | n + 1, k + 1, h => by rw [bnm_s, bnm_hi n k (by omega), bnm_hi n (k + 1) (by omega)]
theorem bnm_self : ∀ n : Nat, bnm n n = 1
  | 0 => rfl
  | n + 1 => by rw [bnm_s, bnm_self n, bnm_hi n (n + 1) (by omega)]
theorem sumn_shift (f : Nat → Int) : ∀ n, sumn (n + 1) f = f 0 + sumn n (fun k => f (k + 1))
  | 0 => by show 0 + f 0 = f 0 + 0; omega
  | n + 1 => by
    show sumn (n + 1) f + f (n + 1) = f 0 + (sumn n (fun k => f (k + 1)) + f (n + 1))
    rw [sumn_shift f n]; omega
theorem bnm_sum (x : Int) : ∀ n : Nat, (x + 1) ^ n = sumn (n + 1) (fun k => (bnm n k : Int) * x ^ k)
  | 0 => by
    show (x + 1) ^ 0 = 0 + ((1 : Nat) : Int) * x ^ 0
    rw [Int.pow_zero, Int.pow_zero]; omega
  | n + 1 => by
    rw [Int.pow_succ, bnm_sum x n]
    rw [sumn_shift (fun k => (bnm (n + 1) k : Int) * x ^ k) (n + 1)]
    have e1 : sumn (n + 1) (fun k => (bnm (n + 1) (k + 1) : Int) * x ^ (k + 1)) = sumn (n + 1) (fun k => x * ((bnm n k : Int) * x ^ k) + (bnm n (k + 1) : Int) * x ^ (k + 1)) := sumn_congr (fun k _ => by
      rw [bnm_s, Int.natCast_add, Int.pow_succ]
      grind)
    have e2 := sumn_shift (fun k => (bnm n k : Int) * x ^ k) (n + 1)
    have e3 : sumn (n + 1 + 1) (fun k => (bnm n k : Int) * x ^ k) = sumn (n + 1) (fun k => (bnm n k : Int) * x ^ k) + (bnm n (n + 1) : Int) * x ^ (n + 1) := rfl
    rw [bnm_hi n (n + 1) (by omega), Int.natCast_zero, Int.zero_mul, Int.add_zero] at e3
    rw [e3] at e2
    rw [e1, sumn_add, sumn_mul]
    rw [bnm_z] at e2
    rw [bnm_z]
    grind
def prm (p : Nat) : Prop := 2 ≤ p ∧ ∀ d, d ∣ p → d = 1 ∨ d = p
theorem prm_co {p k : Nat} (h : prm p) (h1 : 0 < k) (h2 : k < p) : Nat.Coprime p k := by
  rcases h.2 (Nat.gcd p k) (Nat.gcd_dvd_left p k) with e | e
  · exact e
  · have := Nat.le_of_dvd h1 (e ▸ Nat.gcd_dvd_right p k)
    omega
theorem prm_bnm {p k : Nat} (h : prm p) (h1 : k + 1 < p) : p ∣ bnm p (k + 1) := by
  obtain ⟨q, rfl⟩ : ∃ q, p = q + 1 := ⟨p - 1, by have := h.1; omega⟩
  have e := bnm_abs q k
  have d : (q + 1) ∣ (k + 1) * bnm (q + 1) (k + 1) := ⟨bnm q k, e⟩
  exact Nat.Coprime.dvd_of_dvd_mul_left (prm_co h (by omega) h1) d
theorem fermat_step {p : Nat} (h : prm p) (x : Int) : cg p ((x + 1) ^ p) (x ^ p + 1) := by
  rw [bnm_sum]
  obtain ⟨q, hq⟩ : ∃ q, p = q + 1 := ⟨p - 1, by have := h.1; omega⟩
  have e1 : sumn (p + 1) (fun k => (bnm p k : Int) * x ^ k) = ((bnm p 0 : Int) * x ^ 0) + sumn p (fun k => (bnm p (k + 1) : Int) * x ^ (k + 1)) := sumn_shift _ p
  have e2 : sumn p (fun k => (bnm p (k + 1) : Int) * x ^ (k + 1)) = sumn q (fun k => (bnm p (k + 1) : Int) * x ^ (k + 1)) + (bnm p p : Int) * x ^ p := by
    have : ∀ m, m = q + 1 → sumn m (fun k => (bnm p (k + 1) : Int) * x ^ (k + 1)) = sumn q (fun k => (bnm p (k + 1) : Int) * x ^ (k + 1)) + (bnm p m : Int) * x ^ m := by
      intro m hm; subst hm; rfl
    exact this p hq
  have e3 : cg p (sumn q (fun k => (bnm p (k + 1) : Int) * x ^ (k + 1))) (sumn q (fun _ => 0)) := sumn_cg (fun k hk => by
    obtain ⟨c, hc⟩ := prm_bnm h (show k + 1 < p by omega)
    exact ⟨(c : Int) * x ^ (k + 1), by rw [hc, Int.natCast_mul]; grind⟩)
  rw [sumn_zero] at e3
  obtain ⟨r, hr⟩ := e3
  rw [e1, e2, bnm_z, bnm_self, hr]
  exact ⟨r, by rw [Int.pow_zero]; grind⟩
theorem fermat_nat {p : Nat} (h : prm p) : ∀ x : Nat, cg p ((x : Int) ^ p) x
  | 0 => by
    have hp := h.1
    obtain ⟨q, rfl⟩ : ∃ q, p = q + 1 := ⟨p - 1, by omega⟩
    refine ⟨0, ?_⟩
    rw [Int.pow_succ]
    grind
  | x + 1 => by
    have e := fermat_step h (x : Int)
    rw [Int.natCast_add]
    refine cg_trans e ?_
    exact cg_add (fermat_nat h x) (cg_refl _ _)
theorem fermat {p : Nat} (h : prm p) {x : Int} (h1 : 0 < x) (h2 : x < p) : cg p (x * x ^ (p - 2)) 1 := by
  obtain ⟨k, rfl⟩ : ∃ k : Nat, x = k := ⟨x.toNat, by omega⟩
  have hp := h.1
  have e := fermat_nat h k
  obtain ⟨q, rfl⟩ : ∃ q, p = q + 2 := ⟨p - 2, by omega⟩
  obtain ⟨c, hc⟩ := e
  rw [show q + 2 - 2 = q by omega]
  have e2 : (k : Int) * ((k : Int) * (k : Int) ^ q - 1) = ((q + 2 : Nat) : Int) * c := by
    have e3 : (k : Int) ^ (q + 2) = (k : Int) * ((k : Int) * (k : Int) ^ q) := by
      rw [Int.pow_succ, Int.pow_succ]; grind
    rw [e3] at hc
    grind
  have d1 : ((q + 2 : Nat) : Int) ∣ (k : Int) * ((k : Int) * (k : Int) ^ q - 1) := ⟨c, e2⟩
  have d2 : (q + 2) ∣ k * ((k : Int) * (k : Int) ^ q - 1).natAbs := by
    have := Int.natAbs_dvd_natAbs.mpr d1
    rw [Int.natAbs_mul, Int.natAbs_natCast, Int.natAbs_natCast] at this
    exact this
  have d3 : (q + 2) ∣ ((k : Int) * (k : Int) ^ q - 1).natAbs := Nat.Coprime.dvd_of_dvd_mul_left (prm_co h (by omega) (by omega)) d2
  have d4 : ((q + 2 : Nat) : Int) ∣ ((k : Int) * (k : Int) ^ q - 1) := Int.natAbs_dvd_natAbs.mp (by rw [Int.natAbs_natCast]; exact d3)
  obtain ⟨r, hr⟩ := d4
  exact ⟨r, by omega⟩
def trd (p : Nat) : Nat → Nat → Bool
  | 0, lo => Nat.blt 0 (p % lo)
  | s + 1, lo => trd p s lo && trd p s (lo + 2 ^ s)
theorem trd_spec (p : Nat) : ∀ (s lo d : Nat), trd p s lo = true → lo ≤ d → d < lo + 2 ^ s → 0 < p % d
  | 0, lo, d, h, h1, h2 => by
    have e : d = lo := by rw [Nat.pow_zero] at h2; omega
    subst e
    exact Nat.le_of_ble_eq_true h
  | s + 1, lo, d, h, h1, h2 => by
    have h3 : trd p s lo = true ∧ trd p s (lo + 2 ^ s) = true := Bool.and_eq_true_iff.mp h
    by_cases q : d < lo + 2 ^ s
    · exact trd_spec p s lo d h3.1 h1 q
    · exact trd_spec p s (lo + 2 ^ s) d h3.2 (by omega) (by rw [Nat.pow_succ] at h2; omega)
theorem prm_of {p : Nat} (h : trd p 16 2 = true) (h1 : 2 ≤ p) (h2 : p < 65538 * 65538) : prm p := by
  refine ⟨h1, fun d hd => ?_⟩
  obtain ⟨e, he⟩ := hd
  by_cases q1 : d = 1
  · exact Or.inl q1
  by_cases q2 : e = 1
  · right; rw [he, q2]; omega
  exfalso
  have hd0 : d ≠ 0 := fun z => by rw [z, Nat.zero_mul] at he; omega
  have he0 : e ≠ 0 := fun z => by rw [z, Nat.mul_zero] at he; omega
  have m1 : p % d = 0 := by rw [he]; exact Nat.mul_mod_right d e
  have m2 : p % e = 0 := by rw [he]; exact Nat.mul_mod_left d e
  by_cases q3 : d < 65538
  · have := trd_spec p 16 2 d h (by omega) (by omega)
    omega
  · by_cases q4 : e < 65538
    · have := trd_spec p 16 2 e h (by omega) (by omega)
      omega
    · have := Nat.mul_le_mul (show 65538 ≤ d by omega) (show 65538 ≤ e by omega)
      omega
set_option maxRecDepth 100000 in
theorem prm_one : prm 2147483647 := prm_of (by decide +kernel) (by omega) (by omega)
set_option maxRecDepth 100000 in
theorem prm_two : prm 2147483629 := prm_of (by decide +kernel) (by omega) (by omega)
