theorem nonpos_of_mul {D x : Int} (hD : 0 < D) (h : D * x ≤ 0) : x ≤ 0 := by
  by_cases q : x ≤ 0
  · exact q
  · exfalso
    have := Int.mul_pos hD (show 0 < x by omega)
    omega
theorem nonneg_of_mul {D x : Int} (hD : 0 < D) (h : 0 ≤ D * x) : 0 ≤ x := by
  have := nonpos_of_mul hD (x := -x) (by rw [Int.mul_neg]; omega)
  omega
theorem le_of_mul {D x y : Int} (hD : 0 < D) (h : D * x ≤ D * y) : x ≤ y := Int.le_of_mul_le_mul_left h hD
theorem mul_np {x y : Int} (hx : x ≤ 0) (hy : y ≤ 0) : 0 ≤ x * y := by
  have := Int.mul_nonneg (show 0 ≤ -x by omega) (show 0 ≤ -y by omega)
  rw [Int.neg_mul_neg] at this
  exact this
theorem mul_pn {x y : Int} (hx : 0 ≤ x) (hy : y ≤ 0) : x * y ≤ 0 := by
  have := Int.mul_nonneg hx (show 0 ≤ -y by omega)
  rw [Int.mul_neg] at this
  omega
theorem bnext_kk (k : Nat) (D : Int) (m : Nat → Nat → Int) : bnext k D m k k = D := by unfold bnext; rw [if_pos rfl, if_pos rfl]
theorem bnext_kj {k j : Nat} (D : Int) (m : Nat → Nat → Int) (h : j ≠ k) : bnext k D m k j = m k j := by unfold bnext; rw [if_pos rfl, if_neg h]
theorem bnext_ik {k i : Nat} (D : Int) (m : Nat → Nat → Int) (h : i ≠ k) : bnext k D m i k = -m i k := by unfold bnext; rw [if_neg h, if_pos rfl]
theorem UU_nonneg {n : Nat} {A : Nat → Nat → Int} (hA : ∀ i, i < n → 0 ≤ A i i) : ∀ k, k ≤ n → 0 ≤ PP A k ∧ 0 ≤ UU A k
  | 0, _ => ⟨show (0 : Int) ≤ 1 by decide, show (0 : Int) ≤ 0 by decide⟩
  | k + 1, hk => by
    have ih := UU_nonneg hA k (by omega)
    have h1 := Int.mul_nonneg (hA k (by omega)) ih.1
    have h2 := Int.mul_nonneg (hA k (by omega)) ih.2
    exact ⟨h1, by show 0 ≤ A k k * UU A k + PP A k; omega⟩
theorem lapm_diag {n : Nat} {A : Nat → Nat → Int} (h : lapm n A) : ∀ i, i < n → 0 ≤ A i i := by
  intro i hi
  have h1 := h.2.2 i hi
  have h2 := sumn_le_one (n := n) (k := i) (f := fun j => A i j) hi (fun j hj hne => h.2.1 i j hi hj (fun z => hne z.symm))
  omega
/-- how far an entry of the right part is from 0 -/
theorem BI.right_lo {n : Nat} {A : Nat → Nat → Int} {k : Nat} {D : Int} {m : Nat → Nat → Int} (h : BI n A k D m) {i j : Nat} (hi : i < n) (hj : j < n) (hik : i < k) (hkj : k ≤ j) : -D ≤ m i j ∧ m i j ≤ 0 := by
  obtain ⟨-, -, -, h4, -, -, h7, -⟩ := h
  have a := h7 i hi hik
  have b := rsm_le (n := n) (k := k) (m := m) (i := i) (j := j) hj hkj (fun c hc hkc hne => h4 i c hi hc hkc (by omega))
  exact ⟨by omega, h4 i j hi hj hkj (by omega)⟩
theorem BI.low_left {n : Nat} {A : Nat → Nat → Int} {k : Nat} {D : Int} {m : Nat → Nat → Int} (h : BI n A k D m) {i j : Nat} (hi : i < n) (hj : j < n) (hik : i < k) (hkj : k ≤ j) : m j i = -m i j ∧ 0 ≤ m j i ∧ m j i ≤ D := by
  have a := h.right_lo hi hj hik hkj
  have b := h.2.2.1 i j hi hj
  rw [if_neg (fun z => by have := z.mp hik; omega)] at b
  exact ⟨b, by omega, by omega⟩
theorem BI.corner {n : Nat} {A : Nat → Nat → Int} {k : Nat} {D : Int} {m : Nat → Nat → Int} (h : BI n A k D m) {i j : Nat} (hi : i < n) (hj : j < n) (hki : k ≤ i) (hkj : k ≤ j) : m j i = m i j ∧ -(A i i * D) ≤ m i j ∧ m i j ≤ A i i * D := by
  have b := h.2.2.1 i j hi hj
  rw [if_pos ⟨fun z => by omega, fun z => by omega⟩] at b
  obtain ⟨-, -, -, h4, -, h6, -, h8, -⟩ := h
  have d := h8 i hki hi
  have s := h6 i hi hki
  have t := rsm_le (n := n) (k := k) (m := m) (i := i) (j := i) hi hki (fun c hc hkc hne => h4 i c hi hc hkc (fun z => hne z.symm))
  refine ⟨b, ?_⟩
  by_cases q : i = j
  · subst q
    exact ⟨by omega, d⟩
  · have e := h4 i j hi hj hkj q
    have f := rsm_two (n := n) (k := k) (m := m) (i := i) (j := j) hi hj hki hkj q (fun c hc hkc hne => h4 i c hi hc hkc (fun z => hne z.symm))
    exact ⟨by omega, by omega⟩
theorem BI.step {n : Nat} {A : Nat → Nat → Int} (hA : lapm n A) {k : Nat} {D : Int} {m : Nat → Nat → Int} (h : BI n A k D m) (hk : k < n) (hp : m k k ≠ 0) : BI n A (k + 1) (m k k) (bnext k D m) := by
  have hpp : 0 < m k k := by have := h.pivot_nonneg hk; omega
  obtain ⟨e1, hf, hlin⟩ := h.exact hk hp
  have hro : ∀ i, i < n → i < k → -D ≤ m i k ∧ m i k ≤ 0 := fun i hi hik => h.right_lo hi hk hik (Nat.le_refl k)
  have hlo : ∀ i, i < n → i < k → m k i = -m i k ∧ 0 ≤ m k i ∧ m k i ≤ D := fun i hi hik => h.low_left hi hk hik (Nat.le_refl k)
  have hdg := lapm_diag hA
  have hUP := UU_nonneg hdg k (by omega)
  obtain ⟨⟨hD, hDd⟩, h2, h3, h4, h5, h6, h7, h8, h9, h10⟩ := h
  have hAk : m k k ≤ A k k * D := h8 k (Nat.le_refl k) hk
  have hsy : ∀ j, j < n → m j k = if j < k then -m k j else m k j := fun j hj => by
    have a := h3 k j hk hj
    rw [a]
    by_cases q : j < k
    · rw [if_pos q, if_neg (fun z => by have := z.mpr q; omega)]
    · rw [if_neg q, if_pos ⟨fun z => by omega, fun z => by omega⟩]
  refine ⟨⟨hpp, e1⟩, hlin, ?_, ?_, ?_, ?_, ?_, ?_, ?_, ?_⟩
  · intro i j hi hj
    by_cases qi : i = k
    · subst qi
      by_cases qj : j = i
      · subst qj
        rw [if_pos ⟨id, id⟩]
      · rw [bnext_ik D m qj, bnext_kj D m qj, hsy j hj]
        by_cases q : j < i
        · rw [if_pos q, if_pos ⟨fun _ => by omega, fun _ => by omega⟩]; omega
        · rw [if_neg q, if_neg (fun z => by have := z.mp (by omega); omega)]
    · by_cases qj : j = k
      · subst qj
        rw [bnext_ik D m qi, bnext_kj D m qi, hsy i hi]
        by_cases q : i < j
        · rw [if_pos q, if_pos ⟨fun _ => by omega, fun _ => by omega⟩]; omega
        · rw [if_neg q, if_neg (fun z => by have := z.mpr (by omega); omega)]; omega
      · have f1 := hf i j hi hj qi qj
        have f2 := hf j i hj hi qj qi
        have a := h3 i j hi hj
        have b := hsy j hj
        have c := hsy i hi
        refine mul_cancel_pos hD ?_
        rw [f2]
        by_cases q1 : i < k
        · rw [if_pos q1] at c
          by_cases q2 : j < k
          · rw [if_pos q2] at b
            rw [if_pos ⟨fun _ => q2, fun _ => q1⟩] at a
            rw [if_pos ⟨fun _ => by omega, fun _ => by omega⟩, f1, a, b, c]
            grind
          · rw [if_neg q2] at b
            rw [if_neg (fun z => q2 (z.mp q1))] at a
            rw [if_neg (fun z => by have := z.mp (by omega); omega), Int.mul_neg, f1, a, b, c]
            grind
        · rw [if_neg q1] at c
          by_cases q2 : j < k
          · rw [if_pos q2] at b
            rw [if_neg (fun z => q1 (z.mpr q2))] at a
            rw [if_neg (fun z => by have := z.mpr (by omega); omega), Int.mul_neg, f1, a, b, c]
            grind
          · rw [if_neg q2] at b
            rw [if_pos ⟨fun z => absurd z q1, fun z => absurd z q2⟩] at a
            rw [if_pos ⟨fun z => by omega, fun z => by omega⟩, f1, a, b, c]
            grind
  · intro i j hi hj hkj hne
    by_cases qi : i = k
    · subst qi
      rw [bnext_kj D m (by omega)]
      exact h4 i j hi hj (by omega) hne
    · refine nonpos_of_mul hD ?_
      rw [hf i j hi hj qi (by omega)]
      have a := mul_pn (Int.le_of_lt hpp) (h4 i j hi hj (by omega) hne)
      have b := mul_np (h4 i k hi hk (Nat.le_refl k) qi) (h4 k j hk hj (by omega) (by omega))
      omega
  · intro i j hi hj hik hjk
    by_cases qi : i = k
    · subst qi
      by_cases qj : j = i
      · subst qj; rw [bnext_kk]; omega
      · rw [bnext_kj D m qj]
        exact (hlo j hj (by omega)).2.1
    · by_cases qj : j = k
      · subst qj
        rw [bnext_ik D m qi]
        have := (hro i hi (by omega)).2
        omega
      · refine nonneg_of_mul hD ?_
        rw [hf i j hi hj qi qj]
        have a := Int.mul_nonneg (Int.le_of_lt hpp) (h5 i j hi hj (by omega) (by omega))
        have b := mul_pn (hlo j hj (by omega)).2.1 (hro i hi (by omega)).2
        rw [Int.mul_comm] at b
        omega
  · intro i hi hki
    have e : D * rsm n (k + 1) (bnext k D m) i = m k k * rsm n k m i + (-m i k) * rsm n k m k := by
      unfold rsm
      rw [← sumn_mul, ← sumn_mul, ← sumn_mul, ← sumn_add]
      refine sumn_congr (fun j hj => ?_)
      by_cases q : k + 1 ≤ j
      · rw [if_pos q, if_pos (by omega), if_pos (by omega), hf i j hi hj (by omega) (by omega)]
        grind
      · rw [if_neg q]
        by_cases q2 : j = k
        · subst q2
          rw [if_pos (by omega), if_pos (by omega)]
          grind
        · rw [if_neg (by omega), if_neg (by omega)]
          omega
    refine nonneg_of_mul hD ?_
    rw [e]
    have a := Int.mul_nonneg (Int.le_of_lt hpp) (h6 i hi (by omega))
    have b := h4 i k hi hk (Nat.le_refl k) (by omega)
    have c := Int.mul_nonneg (show 0 ≤ -m i k by omega) (h6 k hk (Nat.le_refl k))
    omega
  · intro i hi hik
    by_cases qi : i = k
    · subst qi
      have e := sumn_pt (n := n) (k := i) (f := fun j => if i + 1 ≤ j then bnext i D m i j else 0) (g := fun j => if i ≤ j then m i j else 0) hi (fun c hc hne => by
        show (if i + 1 ≤ c then bnext i D m i c else 0) = (if i ≤ c then m i c else 0)
        by_cases q : i + 1 ≤ c
        · rw [if_pos q, if_pos (by omega), bnext_kj D m hne]
        · rw [if_neg q, if_neg (by omega)])
      rw [if_neg (show ¬ i + 1 ≤ i by omega), if_pos (Nat.le_refl i)] at e
      have a := h6 i hi (Nat.le_refl i)
      unfold rsm at a ⊢
      omega
    · have e : D * rsm n (k + 1) (bnext k D m) i = m k k * rsm n k m i + (-m i k) * rsm n k m k := by
        unfold rsm
        rw [← sumn_mul, ← sumn_mul, ← sumn_mul, ← sumn_add]
        refine sumn_congr (fun j hj => ?_)
        by_cases q : k + 1 ≤ j
        · rw [if_pos q, if_pos (by omega), if_pos (by omega), hf i j hi hj (by omega) (by omega)]
          grind
        · rw [if_neg q]
          by_cases q2 : j = k
          · subst q2
            rw [if_pos (by omega), if_pos (by omega)]
            grind
          · rw [if_neg (by omega), if_neg (by omega)]
            omega
      refine le_of_mul hD ?_
      rw [e]
      have a := Int.mul_le_mul_of_nonneg_left (h7 i hi (by omega)) (Int.le_of_lt hpp)
      have b := (hro i hi (by omega)).2
      have c := Int.mul_nonneg (show 0 ≤ -m i k by omega) (h6 k hk (Nat.le_refl k))
      have d : D * -m k k = m k k * -D := by grind
      omega
  · intro j hkj hj
    refine le_of_mul hD ?_
    rw [hf j j hj hj (by omega) (by omega)]
    have a := Int.mul_le_mul_of_nonneg_left (h8 j (by omega) hj) (Int.le_of_lt hpp)
    have b := mul_np (h4 j k hj hk (Nat.le_refl k) (by omega)) (h4 k j hk hj (by omega) (by omega))
    have d : D * (A j j * m k k) = m k k * (A j j * D) := by grind
    omega
  · show m k k ≤ A k k * PP A k
    have a := Int.mul_le_mul_of_nonneg_left h9 (hdg k hk)
    omega
  · intro i j hi hj hik hjk
    show _ ≤ A k k * UU A k + PP A k
    have u := Int.mul_nonneg (hdg k hk) hUP.2
    by_cases qi : i = k
    · subst qi
      by_cases qj : j = i
      · subst qj; rw [bnext_kk]; omega
      · rw [bnext_kj D m qj]
        have := (hlo j hj (by omega)).2.2
        omega
    · by_cases qj : j = k
      · subst qj
        rw [bnext_ik D m qi]
        have := (hro i hi (by omega)).1
        omega
      · have f := hf i j hi hj qi qj
        have a1 : m k k * m i j ≤ (A k k * D) * UU A k :=
          Int.le_trans (Int.mul_le_mul_of_nonneg_right hAk (h5 i j hi hj (by omega) (by omega))) (Int.mul_le_mul_of_nonneg_left (h10 i j hi hj (by omega) (by omega)) (Int.mul_nonneg (hdg k hk) (Int.le_of_lt hD)))
        have r := hro i hi (by omega)
        have l := hlo j hj (by omega)
        have a2 : (-m i k) * m k j ≤ D * D :=
          Int.le_trans (Int.mul_le_mul_of_nonneg_right (show -m i k ≤ D by omega) l.2.1) (Int.mul_le_mul_of_nonneg_left l.2.2 (Int.le_of_lt hD))
        have a3 : D * bnext k D m i j ≤ D * (A k k * UU A k + D) := by
          rw [f]
          have d1 : D * (A k k * UU A k + D) = (A k k * D) * UU A k + D * D := by grind
          have d2 : (-m i k) * m k j = -(m i k * m k j) := Int.neg_mul _ _
          omega
        have a4 := le_of_mul hD a3
        omega
theorem BI.sing {n : Nat} {A : Nat → Nat → Int} {k : Nat} {D : Int} {m : Nat → Nat → Int} (h : BI n A k D m) (hk : k < n) (hp : m k k = 0) : dt n A = 0 := by
  have hcol : ∀ j, j < n → k ≤ j → m j k = 0 := by
    intro j hj hkj
    obtain ⟨-, -, h3, h4, -, h6, -⟩ := h
    have a := h3 k j hk hj
    rw [if_pos ⟨fun z => by omega, fun z => by omega⟩] at a
    rw [a]
    by_cases q : k = j
    · subst q; exact hp
    · have b := rsm_two (n := n) (k := k) (m := m) (i := k) (j := j) hk hj (Nat.le_refl k) hkj q (fun c hc hkc hne => h4 k c hk hc hkc (fun z => hne z.symm))
      have c := h6 k hk (Nat.le_refl k)
      have d := h4 k j hk hj hkj q
      omega
  obtain ⟨⟨hD, -⟩, h2, -⟩ := h
  by_cases hd : dt n A = 0
  · exact hd
  exfalso
  have z := dt_ker n A (fun c => if c = k then -D else if c < k then m c k else 0) (fun i hi => by
    have s := sumn_pt (n := n) (k := k) (f := fun c => A i c * (if c = k then -D else if c < k then m c k else 0)) (g := fun c => bkm A k i c * m c k) hk (fun c hc hne => by
      show A i c * (if c = k then -D else if c < k then m c k else 0) = bkm A k i c * m c k
      rw [if_neg hne]
      unfold bkm
      by_cases q : c < k
      · rw [if_pos q, if_pos q]
      · rw [if_neg q, if_neg q, hcol c hc (by omega), Int.mul_zero, Int.mul_zero])
    rw [s, h2 k i hk hi]
    show D * ccm A k k i + (A i k * (if k = k then -D else _) - bkm A k i k * m k k) = 0
    unfold ccm
    rw [if_neg (by omega), if_pos rfl, hp, Int.mul_zero]
    grind) hd k hk
  rw [if_pos rfl] at z
  omega
theorem BI.last {n : Nat} {A : Nat → Nat → Int} {D : Int} {m : Nat → Nat → Int} (h : BI n A n D m) : D = dt n A ∧ (∀ i j, i < n → j < n → sumn n (fun c => A i c * m c j) = D * uv i j) ∧ (∀ i j, i < n → j < n → 0 ≤ m i j ∧ m i j ≤ UU A n) ∧ D ≤ PP A n ∧ 0 < D := by
  obtain ⟨⟨hD, hDd⟩, h2, -, -, h5, -, -, -, h9, h10⟩ := h
  refine ⟨?_, ?_, ?_, h9, hD⟩
  · rw [hDd]
    exact dt_congr n _ _ (fun i c _ hc => by unfold bkm; rw [if_pos hc])
  · intro i j hi hj
    have a := h2 j i hj hi
    unfold ccm at a
    rw [if_pos hj] at a
    rw [← a]
    exact sumn_congr (fun c hc => by unfold bkm; rw [if_pos hc])
  · intro i j hi hj
    exact ⟨h5 i j hi hj hi hj, h10 i j hi hj hi hj⟩
