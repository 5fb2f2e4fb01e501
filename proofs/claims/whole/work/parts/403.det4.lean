theorem sumn_skip (g : Nat → Int) : ∀ (n i : Nat), i < n + 1 → sumn n (fun k => g (skip i k)) = sumn (n + 1) (fun j => if j = i then 0 else g j)
  | 0, i, hi => by
    show 0 = 0 + (if 0 = i then 0 else g 0)
    rw [if_pos (by omega)]; rfl
  | n + 1, i, hi => by
    show sumn n (fun k => g (skip i k)) + g (skip i n) = sumn (n + 1) (fun j => if j = i then 0 else g j) + (if n + 1 = i then 0 else g (n + 1))
    by_cases e : n + 1 = i
    · subst e
      rw [if_pos rfl, Int.add_zero]
      have h1 : sumn n (fun k => g (skip (n + 1) k)) + g (skip (n + 1) n) = sumn (n + 1) (fun k => g (skip (n + 1) k)) := rfl
      rw [h1]
      refine sumn_congr (fun k hk => ?_)
      rw [if_neg (by omega), show skip (n + 1) k = k by unfold skip; rw [if_pos hk]]
    · rw [sumn_skip g n i (by omega), if_neg e, show skip i n = n + 1 by unfold skip; rw [if_neg (by omega)]]
theorem skip_two {i j : Nat} (h : j < i) (r : Nat) : skip i (skip j r) = skip j (skip (i - 1) r) := by
  unfold skip
  repeat' split
  all_goals omega
theorem dt_col01 (n : Nat) (M : Nat → Nat → Int) (h : ∀ i, M i 0 = M i 1) : dt (n + 2) M = 0 := by
  have e1 : dt (n + 2) M = sumn (n + 2) (fun i => sumn (n + 2) (fun j => if j = i then 0 else (if j < i then sg i * sg j * (M i 0 * M j 0) * dt n (minr (minr M i) j) else sg i * sg (j - 1) * (M i 0 * M j 0) * dt n (minr (minr M i) (j - 1))))) := by
    show sumn (n + 2) _ = _
    refine sumn_congr (fun i hi => ?_)
    show sg i * M i 0 * sumn (n + 1) (fun k => sg k * M (skip i k) 1 * dt n (minr (minr M i) k)) = _
    rw [← sumn_mul, ← sumn_skip (fun j => if j < i then sg i * sg j * (M i 0 * M j 0) * dt n (minr (minr M i) j) else sg i * sg (j - 1) * (M i 0 * M j 0) * dt n (minr (minr M i) (j - 1))) (n + 1) i hi]
    refine sumn_congr (fun k hk => ?_)
    rw [← h]
    by_cases q : k < i
    · rw [show skip i k = k by unfold skip; rw [if_pos q], if_pos q]
      grind
    · rw [show skip i k = k + 1 by unfold skip; rw [if_neg q], if_neg (by omega), Nat.add_sub_cancel]
      grind
  have key : ∀ i j : Nat, j < i → dt n (minr (minr M i) j) = dt n (minr (minr M j) (i - 1)) := fun i j hji => dt_congr n _ _ (fun a c _ _ => by
    show M (skip i (skip j a)) _ = M (skip j (skip (i - 1) a)) _
    rw [skip_two hji])
  obtain ⟨G, hG⟩ : ∃ G : Nat → Nat → Int, G = fun i j => if j = i then 0 else (if j < i then sg i * sg j * (M i 0 * M j 0) * dt n (minr (minr M i) j) else sg i * sg (j - 1) * (M i 0 * M j 0) * dt n (minr (minr M i) (j - 1))) := ⟨_, rfl⟩
  have hanti : ∀ i j, G j i = -G i j := fun i j => by
    rw [hG]
    show (if i = j then 0 else (if i < j then _ else _)) = -(if j = i then 0 else (if j < i then _ else _))
    by_cases q : i = j
    · rw [if_pos q, if_pos q.symm]; rfl
    · rw [if_neg q, if_neg (show ¬ j = i from fun z => q z.symm)]
      by_cases q2 : i < j
      · rw [if_pos q2, if_neg (by omega), key j i q2, show sg j = -sg (j - 1) by rw [← sg_succ, Nat.sub_add_cancel (by omega)]]
        grind
      · rw [if_neg q2, if_pos (by omega), key i j (by omega), show sg i = -sg (i - 1) by rw [← sg_succ, Nat.sub_add_cancel (by omega)]]
        grind
  have e3 : dt (n + 2) M = sumn (n + 2) (fun i => sumn (n + 2) (fun j => G i j)) := by rw [e1, hG]
  have e4 := sumn_swap (n + 2) (n + 2) G
  have e5 : sumn (n + 2) (fun j => sumn (n + 2) (fun i => G i j)) = -sumn (n + 2) (fun i => sumn (n + 2) (fun j => G i j)) := by
    rw [← sumn_neg]
    refine sumn_congr (fun j hj => ?_)
    rw [← sumn_neg]
    exact sumn_congr (fun i hi => hanti j i)
  omega
