/-! sums and determinants over Int -/
def sumn : Nat → (Nat → Int) → Int
  | 0, _ => 0
  | n + 1, f => sumn n f + f n
theorem sumn_congr {n : Nat} {f g : Nat → Int} (h : ∀ i, i < n → f i = g i) : sumn n f = sumn n g := by
  induction n with
  | zero => rfl
  | succ n ih =>
    show sumn n f + f n = sumn n g + g n
    rw [ih (fun i hi => h i (by omega)), h n (by omega)]
theorem sumn_add (n : Nat) (f g : Nat → Int) : sumn n (fun i => f i + g i) = sumn n f + sumn n g := by
  induction n with
  | zero => rfl
  | succ n ih =>
    show sumn n (fun i => f i + g i) + (f n + g n) = (sumn n f + f n) + (sumn n g + g n)
    rw [ih]; omega
theorem sumn_mul (n : Nat) (a : Int) (f : Nat → Int) : sumn n (fun i => a * f i) = a * sumn n f := by
  induction n with
  | zero => show 0 = a * 0; rw [Int.mul_zero]
  | succ n ih =>
    show sumn n (fun i => a * f i) + a * f n = a * (sumn n f + f n)
    rw [ih, Int.mul_add]
theorem sumn_zero (n : Nat) : sumn n (fun _ => 0) = 0 := by
  induction n with
  | zero => rfl
  | succ n ih => show sumn n (fun _ => 0) + 0 = 0; rw [ih]; rfl
theorem sumn_neg (n : Nat) (f : Nat → Int) : sumn n (fun i => -f i) = -sumn n f := by
  have h := sumn_mul n (-1) f
  have h2 : sumn n (fun i => -f i) = sumn n (fun i => -1 * f i) := sumn_congr (fun i _ => by omega)
  rw [h2, h]; omega
theorem sumn_swap (n m : Nat) (f : Nat → Nat → Int) : sumn n (fun i => sumn m (fun j => f i j)) = sumn m (fun j => sumn n (fun i => f i j)) := by
  induction n with
  | zero => exact (sumn_zero m).symm
  | succ n ih =>
    show sumn n (fun i => sumn m (fun j => f i j)) + sumn m (fun j => f n j) = sumn m (fun j => sumn n (fun i => f i j) + f n j)
    rw [ih, sumn_add]
theorem sumn_single (n k : Nat) (f : Nat → Int) (hk : k < n) (h : ∀ i, i < n → i ≠ k → f i = 0) : sumn n f = f k := by
  induction n with
  | zero => omega
  | succ n ih =>
    show sumn n f + f n = f k
    by_cases e : k = n
    · subst e
      have : sumn k f = 0 := by rw [sumn_congr (fun i hi => h i (by omega) (by omega)), sumn_zero]
      rw [this]; omega
    · rw [ih (by omega) (fun i hi hne => h i (by omega) hne), h n (by omega) (fun z => e z.symm)]; omega
def skip (i k : Nat) : Nat := if k < i then k else k + 1
def minr (M : Nat → Nat → Int) (i : Nat) : Nat → Nat → Int := fun r c => M (skip i r) (c + 1)
def sg (i : Nat) : Int := if i % 2 = 0 then 1 else -1
def dt : Nat → (Nat → Nat → Int) → Int
  | 0, _ => 1
  | n + 1, M => sumn (n + 1) (fun i => sg i * M i 0 * dt n (minr M i))
theorem sg_succ (i : Nat) : sg (i + 1) = -sg i := by
  unfold sg
  by_cases h : i % 2 = 0
  · rw [if_pos h, if_neg (by omega)]
  · rw [if_neg h, if_pos (by omega)]; rfl
theorem skip_lt {i k n : Nat} (hk : k < n) : skip i k < n + 1 := by
  unfold skip; split <;> omega
theorem dt_congr : ∀ (n : Nat) (M N : Nat → Nat → Int), (∀ r c, r < n → c < n → M r c = N r c) → dt n M = dt n N
  | 0, _, _, _ => rfl
  | n + 1, M, N, h => by
    refine sumn_congr (fun i hi => ?_)
    rw [h i 0 hi (by omega), dt_congr n (minr M i) (minr N i) (fun r c hr hc => h _ _ (skip_lt hr) (by omega))]
/-- linear in a row -/
theorem dt_row_add : ∀ (n r : Nat) (M N P : Nat → Nat → Int), r < n → (∀ i c, i ≠ r → N i c = M i c ∧ P i c = M i c) → (∀ c, M r c = N r c + P r c) → dt n M = dt n N + dt n P
  | 0, r, M, N, P, hr, _, _ => by omega
  | n + 1, r, M, N, P, hr, h1, h2 => by
    show sumn (n + 1) _ = sumn (n + 1) _ + sumn (n + 1) _
    rw [← sumn_add]
    refine sumn_congr (fun i hi => ?_)
    by_cases e : i = r
    · subst e
      have hN : dt n (minr N i) = dt n (minr M i) := dt_congr n _ _ (fun a c _ _ => (h1 (skip i a) (c + 1) (by unfold skip; split <;> omega)).1)
      have hP : dt n (minr P i) = dt n (minr M i) := dt_congr n _ _ (fun a c _ _ => (h1 (skip i a) (c + 1) (by unfold skip; split <;> omega)).2)
      rw [hN, hP, h2 0, Int.mul_add, Int.add_mul]
    · have hs : ∃ r2, r2 < n ∧ skip i r2 = r ∧ ∀ a, a ≠ r2 → skip i a ≠ r := by
        by_cases hl : r < i
        · exact ⟨r, by omega, by unfold skip; rw [if_pos hl], fun a ha => by unfold skip; split <;> omega⟩
        · exact ⟨r - 1, by omega, by unfold skip; rw [if_neg (by omega)]; omega, fun a ha => by unfold skip; split <;> omega⟩
      obtain ⟨r2, hr2, hs1, hs2⟩ := hs
      have := dt_row_add n r2 (minr M i) (minr N i) (minr P i) hr2 (fun a c ha => ⟨(h1 _ _ (hs2 a ha)).1, (h1 _ _ (hs2 a ha)).2⟩) (fun c => by show M (skip i r2) _ = N (skip i r2) _ + P (skip i r2) _; rw [hs1]; exact h2 _)
      rw [this, (h1 i 0 e).1, (h1 i 0 e).2, Int.mul_add]
