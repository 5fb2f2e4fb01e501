theorem dt_like_adj (n r : Nat) (M : Nat → Nat → Int) (hr : r + 1 < n) (h : ∀ c, M r c = M (r + 1) c) : dt n M = 0 := by
  have := dt_swap n r M M hr (fun _ _ _ _ => rfl) h (fun c => (h c).symm)
  omega
theorem dt_like_aux (n : Nat) : ∀ (d r : Nat) (M : Nat → Nat → Int), r + 1 + d < n → (∀ c, M r c = M (r + 1 + d) c) → dt n M = 0
  | 0, r, M, hr, h => dt_like_adj n r M hr h
  | d + 1, r, M, hr, h => by
    have e := dt_swap n (r + 1 + d) M (fun i c => if i = r + 1 + d then M (r + 1 + d + 1) c else if i = r + 1 + d + 1 then M (r + 1 + d) c else M i c) (by omega) (fun i c h1 h2 => by show (if _ then _ else if _ then _ else _) = _; rw [if_neg h1, if_neg h2]) (fun c => by show (if _ then _ else _) = _; rw [if_pos rfl]) (fun c => by show (if _ then _ else if _ then _ else _) = _; rw [if_neg (by omega), if_pos rfl])
    have z := dt_like_aux n d r (fun i c => if i = r + 1 + d then M (r + 1 + d + 1) c else if i = r + 1 + d + 1 then M (r + 1 + d) c else M i c) (by omega) (fun c => by
      show (if _ then _ else if _ then _ else _) = (if _ then _ else _)
      rw [if_neg (by omega), if_neg (by omega), if_pos rfl]
      exact h c)
    omega
theorem dt_like (n r s : Nat) (M : Nat → Nat → Int) (hr : r < n) (hs : s < n) (hne : r ≠ s) (h : ∀ c, M r c = M s c) : dt n M = 0 := by
  by_cases q : r < s
  · exact dt_like_aux n (s - r - 1) r M (by omega) (fun c => by rw [show r + 1 + (s - r - 1) = s by omega]; exact h c)
  · exact dt_like_aux n (r - s - 1) s M (by omega) (fun c => by rw [show s + 1 + (r - s - 1) = r by omega]; exact (h c).symm)
theorem dt_rowop (n r s : Nat) (t : Int) (M N : Nat → Nat → Int) (hr : r < n) (hs : s < n) (hne : r ≠ s) (h1 : ∀ i c, i ≠ r → N i c = M i c) (h2 : ∀ c, N r c = M r c + t * M s c) : dt n N = dt n M := by
  have e1 := dt_row_add n r N M (fun i c => if i = r then t * M s c else M i c) hr (fun i c hi => ⟨(h1 i c hi).symm, by show (if _ then _ else _) = _; rw [if_neg hi]; exact (h1 i c hi).symm⟩) (fun c => by show _ = _ + (if _ then _ else _); rw [if_pos rfl]; exact h2 c)
  have e2 := dt_row_mul n r t (fun i c => if i = r then t * M s c else M i c) (fun i c => if i = r then M s c else M i c) hr (fun i c hi => by show (if _ then _ else _) = (if _ then _ else _); rw [if_neg hi, if_neg hi]) (fun c => by show (if _ then _ else _) = _ * (if _ then _ else _); rw [if_pos rfl, if_pos rfl])
  have e3 := dt_like n r s (fun i c => if i = r then M s c else M i c) hr hs hne (fun c => by show (if _ then _ else _) = (if _ then _ else _); rw [if_pos rfl, if_neg (fun z => hne z.symm)])
  rw [e1, e2, e3, Int.mul_zero]; omega
theorem dt_swap_any (n r s : Nat) (M N : Nat → Nat → Int) (hr : r < n) (hs : s < n) (hne : r ≠ s) (h1 : ∀ i c, i ≠ r → i ≠ s → N i c = M i c) (h2 : ∀ c, N r c = M s c) (h3 : ∀ c, N s c = M r c) : dt n N = -dt n M := by
  have hsr : s ≠ r := fun z => hne z.symm
  have e1 := dt_rowop n r s 1 M (fun i c => if i = r then M r c + M s c else M i c) hr hs hne (fun i c hi => if_neg hi) (fun c => by show (if _ then _ else _) = _; rw [if_pos rfl]; omega)
  have e2 := dt_rowop n s r (-1) (fun i c => if i = r then M r c + M s c else M i c) (fun i c => if i = r then M r c + M s c else if i = s then -M r c else M i c) hs hr hsr (fun i c hi => by show (if _ then _ else if _ then _ else _) = (if _ then _ else _); rw [if_neg hi]) (fun c => by show (if _ then _ else if _ then _ else _) = (if _ then _ else _) + -1 * (if _ then _ else _); rw [if_neg hsr, if_pos rfl, if_neg hsr, if_pos rfl]; omega)
  have e3 := dt_rowop n r s 1 (fun i c => if i = r then M r c + M s c else if i = s then -M r c else M i c) (fun i c => if i = r then M s c else if i = s then -M r c else M i c) hr hs hne (fun i c hi => by rw [if_neg hi, if_neg hi]) (fun c => by rw [if_pos rfl, if_pos rfl, if_neg hsr, if_pos rfl]; omega)
  have e4 := dt_row_mul n s (-1) (fun i c => if i = r then M s c else if i = s then -M r c else M i c) N hs (fun i c hi => by
    show (if _ then _ else if _ then _ else _) = _
    by_cases q : i = r
    · rw [if_pos q, q, h2]
    · rw [if_neg q, if_neg hi, h1 i c q hi]) (fun c => by show (if _ then _ else if _ then _ else _) = _; rw [if_neg hsr, if_pos rfl, h3]; omega)
  omega
/-- linear in a column -/
theorem dt_col_add : ∀ (n k : Nat) (M N P : Nat → Nat → Int), k < n → (∀ i c, c ≠ k → N i c = M i c ∧ P i c = M i c) → (∀ i, M i k = N i k + P i k) → dt n M = dt n N + dt n P
  | 0, k, M, N, P, hk, _, _ => by omega
  | n + 1, 0, M, N, P, hk, h1, h2 => by
    show sumn (n + 1) _ = sumn (n + 1) _ + sumn (n + 1) _
    rw [← sumn_add]
    refine sumn_congr (fun i hi => ?_)
    rw [dt_congr n (minr N i) (minr M i) (fun a c _ _ => (h1 _ _ (by omega)).1), dt_congr n (minr P i) (minr M i) (fun a c _ _ => (h1 _ _ (by omega)).2), h2 i, Int.mul_add, Int.add_mul]
  | n + 1, k + 1, M, N, P, hk, h1, h2 => by
    show sumn (n + 1) _ = sumn (n + 1) _ + sumn (n + 1) _
    rw [← sumn_add]
    refine sumn_congr (fun i hi => ?_)
    rw [dt_col_add n k (minr M i) (minr N i) (minr P i) (by omega) (fun a c hc => h1 _ _ (by omega)) (fun a => h2 _), (h1 i 0 (by omega)).1, (h1 i 0 (by omega)).2, Int.mul_add]
theorem dt_col_mul : ∀ (n k : Nat) (t : Int) (M N : Nat → Nat → Int), k < n → (∀ i c, c ≠ k → M i c = N i c) → (∀ i, M i k = t * N i k) → dt n M = t * dt n N
  | 0, k, t, M, N, hk, _, _ => by omega
  | n + 1, 0, t, M, N, hk, h1, h2 => by
    show sumn (n + 1) _ = t * sumn (n + 1) _
    rw [← sumn_mul]
    refine sumn_congr (fun i hi => ?_)
    rw [dt_congr n (minr M i) (minr N i) (fun a c _ _ => h1 _ _ (by omega)), h2 i]
    grind
  | n + 1, k + 1, t, M, N, hk, h1, h2 => by
    show sumn (n + 1) _ = t * sumn (n + 1) _
    rw [← sumn_mul]
    refine sumn_congr (fun i hi => ?_)
    rw [dt_col_mul n k t (minr M i) (minr N i) (by omega) (fun a c hc => h1 _ _ (by omega)) (fun a => h2 _), h1 i 0 (by omega)]
    grind
