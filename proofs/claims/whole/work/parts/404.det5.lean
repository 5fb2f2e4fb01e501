/-! columns: like ones, Cramer's rule, the unit matrix, congruence -/
def setc (M : Nat → Nat → Int) (k : Nat) (v : Nat → Int) : Nat → Nat → Int := fun i c => if c = k then v i else M i c
theorem setc_eq (M : Nat → Nat → Int) (k : Nat) (v : Nat → Int) (i : Nat) : setc M k v i k = v i := if_pos rfl
theorem setc_ne (M : Nat → Nat → Int) {k c : Nat} (v : Nat → Int) (i : Nat) (h : c ≠ k) : setc M k v i c = M i c := if_neg h
theorem sumn_all0 {n : Nat} {f : Nat → Int} (h : ∀ i, i < n → f i = 0) : sumn n f = 0 := by
  rw [sumn_congr h, sumn_zero]
theorem dt_col_adj : ∀ (n k : Nat) (M : Nat → Nat → Int), k + 1 < n → (∀ i, M i k = M i (k + 1)) → dt n M = 0
  | 0, k, M, hk, _ => by omega
  | 1, k, M, hk, _ => by omega
  | n + 2, 0, M, hk, h => dt_col01 n M h
  | n + 2, k + 1, M, hk, h => by
    show sumn (n + 2) _ = 0
    refine sumn_all0 (fun i hi => ?_)
    rw [dt_col_adj (n + 1) k (minr M i) (by omega) (fun a => h _), Int.mul_zero]
theorem dt_lin (n k : Nat) (M : Nat → Nat → Int) (a b : Int) (u v : Nat → Int) (hk : k < n) : dt n (setc M k (fun i => a * u i + b * v i)) = a * dt n (setc M k u) + b * dt n (setc M k v) := by
  rw [dt_col_add n k (setc M k (fun i => a * u i + b * v i)) (setc M k (fun i => a * u i)) (setc M k (fun i => b * v i)) hk
    (fun i c hc => ⟨by rw [setc_ne _ _ _ hc, setc_ne _ _ _ hc], by rw [setc_ne _ _ _ hc, setc_ne _ _ _ hc]⟩) (fun i => by rw [setc_eq, setc_eq, setc_eq]),
    dt_col_mul n k a (setc M k (fun i => a * u i)) (setc M k u) hk (fun i c hc => by rw [setc_ne _ _ _ hc, setc_ne _ _ _ hc]) (fun i => by rw [setc_eq, setc_eq]),
    dt_col_mul n k b (setc M k (fun i => b * v i)) (setc M k v) hk (fun i c hc => by rw [setc_ne _ _ _ hc, setc_ne _ _ _ hc]) (fun i => by rw [setc_eq, setc_eq])]
theorem setc_comm (M : Nat → Nat → Int) {j k : Nat} (h : j ≠ k) (u v : Nat → Int) : setc (setc M j u) k v = setc (setc M k v) j u := by
  funext i c
  unfold setc
  by_cases q : c = k
  · rw [if_pos q, if_neg (by omega), if_pos q]
  · rw [if_neg q]
    by_cases q2 : c = j
    · rw [if_pos q2, if_pos q2]
    · rw [if_neg q2, if_neg q2, if_neg q]
theorem dt_cswap (n k : Nat) (M : Nat → Nat → Int) (u v : Nat → Int) (hk : k + 1 < n) : dt n (setc (setc M k u) (k + 1) v) = -dt n (setc (setc M k v) (k + 1) u) := by
  have z : ∀ w : Nat → Int, dt n (setc (setc M k w) (k + 1) w) = 0 := fun w => dt_col_adj n k _ hk (fun i => by rw [setc_eq, setc_ne _ _ _ (by omega), setc_eq])
  have e0 := z (fun i => 1 * u i + 1 * v i)
  rw [dt_lin n (k + 1) _ 1 1 u v (by omega)] at e0
  rw [setc_comm M (show k ≠ k + 1 by omega), setc_comm M (show k ≠ k + 1 by omega)] at e0
  rw [dt_lin n k _ 1 1 u v (by omega), dt_lin n k _ 1 1 u v (by omega)] at e0
  rw [← setc_comm M (show k ≠ k + 1 by omega), ← setc_comm M (show k ≠ k + 1 by omega), ← setc_comm M (show k ≠ k + 1 by omega), ← setc_comm M (show k ≠ k + 1 by omega)] at e0
  rw [z u, z v] at e0
  omega
theorem setc_self (M : Nat → Nat → Int) (k : Nat) : setc M k (fun i => M i k) = M := by
  funext i c
  unfold setc
  by_cases q : c = k
  · rw [if_pos q, q]
  · rw [if_neg q]
theorem dt_clike_aux (n : Nat) : ∀ (d k : Nat) (M : Nat → Nat → Int), k + 1 + d < n → (∀ i, M i k = M i (k + 1 + d)) → dt n M = 0
  | 0, k, M, hk, h => dt_col_adj n k M hk h
  | d + 1, k, M, hk, h => by
    have e := dt_cswap n (k + 1 + d) M (fun i => M i (k + 1 + d)) (fun i => M i (k + 1 + d + 1)) (by omega)
    have e1 : setc (setc M (k + 1 + d) (fun i => M i (k + 1 + d))) (k + 1 + d + 1) (fun i => M i (k + 1 + d + 1)) = M := by rw [setc_self, setc_self]
    have z := dt_clike_aux n d k (setc (setc M (k + 1 + d) (fun i => M i (k + 1 + d + 1))) (k + 1 + d + 1) (fun i => M i (k + 1 + d))) (by omega) (fun i => by
      rw [setc_ne _ _ _ (by omega), setc_ne _ _ _ (by omega), setc_ne _ _ _ (by omega), setc_eq]
      exact h i)
    rw [e1] at e
    omega
theorem dt_clike (n j k : Nat) (M : Nat → Nat → Int) (hj : j < n) (hk : k < n) (hne : j ≠ k) (h : ∀ i, M i j = M i k) : dt n M = 0 := by
  by_cases q : j < k
  · exact dt_clike_aux n (k - j - 1) j M (by omega) (fun i => by rw [show j + 1 + (k - j - 1) = k by omega]; exact h i)
  · exact dt_clike_aux n (j - k - 1) k M (by omega) (fun i => by rw [show k + 1 + (j - k - 1) = j by omega]; exact (h i).symm)
theorem dt_c0 (n k : Nat) (M : Nat → Nat → Int) (hk : k < n) (h : ∀ i, i < n → M i k = 0) : dt n M = 0 := by
  have e := dt_col_mul n k 0 (setc M k (fun _ => 0)) (setc M k (fun _ => 0)) hk (fun _ _ _ => rfl) (fun i => by rw [setc_eq]; rfl)
  rw [dt_congr n M (setc M k (fun _ => 0)) (fun i c hi hc => by
    by_cases q : c = k
    · rw [q, setc_eq, h i hi]
    · rw [setc_ne _ _ _ q]), e]
  omega
theorem dt_linsum (n k : Nat) (M : Nat → Nat → Int) (y : Nat → Int) (U : Nat → Nat → Int) (hk : k < n) : ∀ m, dt n (setc M k (fun i => sumn m (fun c => y c * U c i))) = sumn m (fun c => y c * dt n (setc M k (U c)))
  | 0 => dt_c0 n k _ hk (fun i _ => by rw [setc_eq]; rfl)
  | m + 1 => by
    have e := dt_lin n k M 1 (y m) (fun i => sumn m (fun c => y c * U c i)) (U m) hk
    have e2 : (fun i => sumn (m + 1) (fun c => y c * U c i)) = (fun i => 1 * sumn m (fun c => y c * U c i) + y m * U m i) := by
      funext i
      rw [Int.one_mul]; rfl
    rw [e2, e, dt_linsum n k M y U hk m, Int.one_mul]; rfl
/-- Cramer -/
theorem dt_cramer (n : Nat) (B : Nat → Nat → Int) (y d : Nat → Int) (h : ∀ i, i < n → sumn n (fun c => B i c * y c) = d i) (k : Nat) (hk : k < n) : dt n B * y k = dt n (setc B k d) := by
  have e := dt_linsum n k B y (fun c i => B i c) hk n
  rw [dt_congr n (setc B k d) (setc B k (fun i => sumn n (fun c => y c * B i c))) (fun i c hi hc => by
    by_cases q : c = k
    · rw [q, setc_eq, setc_eq, ← h i hi]
      exact sumn_congr (fun c _ => Int.mul_comm _ _)
    · rw [setc_ne _ _ _ q, setc_ne _ _ _ q]), e, sumn_single n k _ hk (fun c hc hne => by
      rw [dt_clike n c k (setc B k (fun i => B i c)) hc hk hne (fun i => by rw [setc_eq, setc_ne _ _ _ hne]), Int.mul_zero]), setc_self, Int.mul_comm]
theorem dt_ker (n : Nat) (B : Nat → Nat → Int) (y : Nat → Int) (h : ∀ i, i < n → sumn n (fun c => B i c * y c) = 0) (hd : dt n B ≠ 0) (k : Nat) (hk : k < n) : y k = 0 := by
  have e := dt_cramer n B y (fun _ => 0) h k hk
  rw [dt_c0 n k (setc B k (fun _ => 0)) hk (fun i _ => setc_eq _ _ _ _)] at e
  exact (Int.mul_eq_zero.mp e).resolve_left hd
/-- the first column is bare below its head -/
theorem dt_first (n : Nat) (M : Nat → Nat → Int) (h : ∀ i, i < n → M (i + 1) 0 = 0) : dt (n + 1) M = M 0 0 * dt n (minr M 0) := by
  show sumn (n + 1) _ = _
  rw [sumn_single (n + 1) 0 _ (by omega) (fun i hi hne => by
    obtain ⟨k, rfl⟩ : ∃ k, i = k + 1 := ⟨i - 1, by omega⟩
    rw [h k (by omega), Int.mul_zero, Int.zero_mul])]
  show 1 * M 0 0 * _ = _
  rw [Int.one_mul]
theorem dt_unit : ∀ (n : Nat) (M : Nat → Nat → Int), (∀ i c, i < n → c < n → M i c = if i = c then 1 else 0) → dt n M = 1
  | 0, _, _ => rfl
  | n + 1, M, h => by
    rw [dt_first n M (fun i hi => by rw [h _ _ (by omega) (by omega), if_neg (by omega)]), h 0 0 (by omega) (by omega), if_pos rfl, Int.one_mul]
    exact dt_unit n (minr M 0) (fun i c hi hc => by
      show M (skip 0 i) (c + 1) = _
      rw [show skip 0 i = i + 1 by unfold skip; rw [if_neg (by omega)], h _ _ (by omega) (by omega)]
      by_cases q : i = c
      · rw [if_pos q, if_pos (by omega)]
      · rw [if_neg q, if_neg (by omega)])
/-! congruence -/
def cg (p x y : Int) : Prop := ∃ q, x = y + p * q
theorem cg_refl (p x : Int) : cg p x x := ⟨0, by rw [Int.mul_zero, Int.add_zero]⟩
theorem cg_symm {p x y : Int} (h : cg p x y) : cg p y x := by
  obtain ⟨q, rfl⟩ := h
  exact ⟨-q, by grind⟩
theorem cg_trans {p x y z : Int} (h : cg p x y) (g : cg p y z) : cg p x z := by
  obtain ⟨q, rfl⟩ := h
  obtain ⟨r, rfl⟩ := g
  exact ⟨q + r, by grind⟩
theorem cg_add {p x y z w : Int} (h : cg p x y) (g : cg p z w) : cg p (x + z) (y + w) := by
  obtain ⟨q, rfl⟩ := h
  obtain ⟨r, rfl⟩ := g
  exact ⟨q + r, by grind⟩
theorem cg_mul {p x y z w : Int} (h : cg p x y) (g : cg p z w) : cg p (x * z) (y * w) := by
  obtain ⟨q, rfl⟩ := h
  obtain ⟨r, rfl⟩ := g
  exact ⟨q * w + y * r + p * q * r, by grind⟩
theorem cg_neg {p x y : Int} (h : cg p x y) : cg p (-x) (-y) := by
  obtain ⟨q, rfl⟩ := h
  exact ⟨-q, by grind⟩
theorem cg_emod (p x : Int) : cg p (x % p) x := ⟨-(x / p), by
  have := Int.emod_add_mul_ediv x p
  grind⟩
theorem cg_eq {p x y : Int} (h : cg p x y) (hx : 0 ≤ x) (hx2 : x < p) (hy : 0 ≤ y) (hy2 : y < p) : x = y := by
  obtain ⟨q, rfl⟩ := h
  have hp : 0 < p := by omega
  have h1 : (y + p * q) % p = y % p := Int.add_mul_emod_self_left y p q
  rw [Int.emod_eq_of_lt hx hx2, Int.emod_eq_of_lt hy hy2] at h1
  exact h1
theorem sumn_cg {p : Int} {n : Nat} {f g : Nat → Int} (h : ∀ i, i < n → cg p (f i) (g i)) : cg p (sumn n f) (sumn n g) := by
  induction n with
  | zero => exact cg_refl p _
  | succ n ih => exact cg_add (ih (fun i hi => h i (by omega))) (h n (by omega))
theorem dt_cg (p : Int) : ∀ (n : Nat) (M N : Nat → Nat → Int), (∀ r c, r < n → c < n → cg p (M r c) (N r c)) → cg p (dt n M) (dt n N)
  | 0, _, _, _ => cg_refl p _
  | n + 1, M, N, h => by
    refine sumn_cg (fun i hi => ?_)
    exact cg_mul (cg_mul (cg_refl p _) (h i 0 hi (by omega))) (dt_cg p n (minr M i) (minr N i) (fun r c hr hc => h _ _ (skip_lt hr) (by omega)))
