/-! rows: multiples, swaps, like rows; columns -/
theorem skip_find {n i r : Nat} (hi : i < n + 1) (hr : r < n + 1) (e : i ≠ r) : ∃ r2, r2 < n ∧ skip i r2 = r ∧ ∀ a, a ≠ r2 → skip i a ≠ r := by
  by_cases hl : r < i
  · exact ⟨r, by omega, by unfold skip; rw [if_pos hl], fun a ha => by unfold skip; split <;> omega⟩
  · exact ⟨r - 1, by omega, by unfold skip; rw [if_neg (by omega)]; omega, fun a ha => by unfold skip; split <;> omega⟩
theorem skip_ne (i a : Nat) : skip i a ≠ i := by unfold skip; split <;> omega
theorem dt_row_mul : ∀ (n r : Nat) (t : Int) (M N : Nat → Nat → Int), r < n → (∀ i c, i ≠ r → M i c = N i c) → (∀ c, M r c = t * N r c) → dt n M = t * dt n N
  | 0, r, t, M, N, hr, _, _ => by omega
  | n + 1, r, t, M, N, hr, h1, h2 => by
    show sumn (n + 1) _ = t * sumn (n + 1) _
    rw [← sumn_mul]
    refine sumn_congr (fun i hi => ?_)
    by_cases e : i = r
    · subst e
      rw [h2 0, dt_congr n (minr M i) (minr N i) (fun a c _ _ => h1 _ _ (skip_ne i a))]
      grind
    · obtain ⟨r2, hr2, hs1, hs2⟩ := skip_find hi hr e
      rw [h1 i 0 e, dt_row_mul n r2 t (minr M i) (minr N i) hr2 (fun a c ha => h1 _ _ (hs2 a ha)) (fun c => by show M (skip i r2) _ = t * N (skip i r2) _; rw [hs1]; exact h2 _)]
      grind
theorem sumn_two (n r : Nat) (f g : Nat → Int) (hr : r + 1 < n) (h1 : ∀ i, i < n → i ≠ r → i ≠ r + 1 → f i = g i) (h2 : f r + f (r + 1) = g r + g (r + 1)) : sumn n f = sumn n g := by
  induction n with
  | zero => omega
  | succ n ih =>
    show sumn n f + f n = sumn n g + g n
    by_cases e : r + 1 = n
    · subst e
      show (sumn r f + f r) + f (r + 1) = (sumn r g + g r) + g (r + 1)
      rw [sumn_congr (fun i hi => h1 i (by omega) (by omega) (by omega))]
      omega
    · rw [ih (by omega) (fun i hi => h1 i (by omega)), h1 n (by omega) (by omega) (by omega)]
/-- two rows that stand side by side change places -/
theorem dt_swap : ∀ (n r : Nat) (M N : Nat → Nat → Int), r + 1 < n → (∀ i c, i ≠ r → i ≠ r + 1 → N i c = M i c) → (∀ c, N r c = M (r + 1) c) → (∀ c, N (r + 1) c = M r c) → dt n N = -dt n M
  | 0, r, M, N, hr, _, _, _ => by omega
  | n + 1, r, M, N, hr, h1, h2, h3 => by
    show sumn (n + 1) _ = -sumn (n + 1) _
    rw [← sumn_neg]
    have hA : dt n (minr N r) = dt n (minr M (r + 1)) := dt_congr n _ _ (fun a c ha hc => by
      show N (skip r a) (c + 1) = M (skip (r + 1) a) (c + 1)
      by_cases q : a < r
      · rw [show skip r a = a by unfold skip; rw [if_pos q], show skip (r + 1) a = a by unfold skip; rw [if_pos (by omega)]]
        exact h1 a _ (by omega) (by omega)
      · by_cases q2 : a = r
        · subst q2
          rw [show skip a a = a + 1 by unfold skip; rw [if_neg (by omega)], show skip (a + 1) a = a by unfold skip; rw [if_pos (by omega)]]
          exact h3 _
        · rw [show skip r a = a + 1 by unfold skip; rw [if_neg (by omega)], show skip (r + 1) a = a + 1 by unfold skip; rw [if_neg (by omega)]]
          exact h1 _ _ (by omega) (by omega))
    have hB : dt n (minr N (r + 1)) = dt n (minr M r) := dt_congr n _ _ (fun a c ha hc => by
      show N (skip (r + 1) a) (c + 1) = M (skip r a) (c + 1)
      by_cases q : a < r
      · rw [show skip r a = a by unfold skip; rw [if_pos q], show skip (r + 1) a = a by unfold skip; rw [if_pos (by omega)]]
        exact h1 a _ (by omega) (by omega)
      · by_cases q2 : a = r
        · subst q2
          rw [show skip a a = a + 1 by unfold skip; rw [if_neg (by omega)], show skip (a + 1) a = a by unfold skip; rw [if_pos (by omega)]]
          exact h2 _
        · rw [show skip r a = a + 1 by unfold skip; rw [if_neg (by omega)], show skip (r + 1) a = a + 1 by unfold skip; rw [if_neg (by omega)]]
          exact h1 _ _ (by omega) (by omega))
    refine sumn_two (n + 1) r _ _ hr (fun i hi e1 e2 => ?_) ?_
    · rw [h1 i 0 e1 e2]
      have key : ∃ r2, r2 + 1 < n ∧ skip i r2 = r ∧ skip i (r2 + 1) = r + 1 ∧ ∀ a, a ≠ r2 → a ≠ r2 + 1 → skip i a ≠ r ∧ skip i a ≠ r + 1 := by
        by_cases q : i < r
        · exact ⟨r - 1, by omega, by unfold skip; rw [if_neg (by omega)]; omega, by unfold skip; rw [if_neg (by omega)]; omega, fun a ha hb => by unfold skip; split <;> omega⟩
        · exact ⟨r, by omega, by unfold skip; rw [if_pos (by omega)], by unfold skip; rw [if_pos (by omega)], fun a ha hb => by unfold skip; split <;> omega⟩
      obtain ⟨r2, k1, k2, k3, k4⟩ := key
      have := dt_swap n r2 (minr M i) (minr N i) k1 (fun a c ha hb => h1 _ _ (k4 a ha hb).1 (k4 a ha hb).2) (fun c => by show N (skip i r2) _ = M (skip i (r2 + 1)) _; rw [k2, k3]; exact h2 _) (fun c => by show N (skip i (r2 + 1)) _ = M (skip i r2) _; rw [k2, k3]; exact h3 _)
      rw [this]
      grind
    · rw [hA, hB, h2 0, h3 0, sg_succ]
      grind
