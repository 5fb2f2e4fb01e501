/-! permits: what a faultless permit is made of; its value -/
def ups (f : Int → Int) (i x : Int) : Int → Int := fun j => if j = i then x else f j
def nmb (sg : Int → Int) (N : Int) : Nat → Int → Int → Int × Int
  | 0, k, acc => (acc, k)
  | n + 1, k, acc => if k < N ∧ dgt (sg k) then nmb sg N n (k + 1) (acc * 10 + sg k - 48) else (acc, k)
def gd (v : LV) (sg : Int → Int) (N k a d : Int) : Prop := ∃ (m : Nat) (l : Int), k + m = N ∧ 0 ≤ k ∧ 0 ≤ d ∧ d ≤ k ∧ fvf v sg N m k a d l = -10000009
theorem gd_end {v : LV} {sg : Int → Int} {k a d : Int} (h : gd v sg k k a d) : 5 ≤ a ∧ d = 0 := by
  obtain ⟨m, l, h1, h2, h3, h4, h5⟩ := h
  have : m = 0 := by omega
  subst this
  rw [fvf] at h5
  by_cases q : 5 ≤ a ∧ d = 0
  · exact q
  · rw [if_neg q] at h5; omega
theorem gd_step {v : LV} {sg : Int → Int} {N k a d : Int} (h : gd v sg N k a d) (hk : k < N) : ∃ l q, stp v a d l (sg k) = some q ∧ (0 ≤ q.2.1 → q.2.1 ≤ k + 1 → ∃ m : Nat, (k + 1) + m = N ∧ 0 ≤ k ∧ fvf v sg N m (k + 1) q.1 q.2.1 q.2.2 = -10000009) := by
  obtain ⟨m, l, h1, h2, h3, h4, h5⟩ := h
  obtain ⟨m', rfl⟩ : ∃ m', m = m' + 1 := ⟨m - 1, by omega⟩
  cases e : stp v a d l (sg k) with
  | none => rw [fvf_n e] at h5; omega
  | some q =>
    obtain ⟨a', d', l'⟩ := q
    rw [fvf_s e] at h5
    exact ⟨l, (a', d', l'), e, fun _ _ => ⟨m', by omega, h2, h5⟩⟩
/-- where one may begin -/
theorem gd_one {v : LV} {sg : Int → Int} {N k d : Int} (h : gd v sg N k 0 d) : k < N ∧ ((sg k = 33 ∧ gd v sg N (k + 1) 0 d) ∨ (sg k = 40 ∧ gd v sg N (k + 1) 0 (d + 1)) ∨ (ltr (sg k) ∧ ∃ m : Nat, k + 1 + m = N ∧ fvf v sg N m (k + 1) 1 d (sg k) = -10000009)) := by
  have h0 := h
  obtain ⟨m, l, h1, h2, h3, h4, h5⟩ := h
  have hk : k < N := by
    by_cases q : k < N
    · exact q
    · have : k = N := by omega
      subst this
      have := gd_end h0; omega
  obtain ⟨m', rfl⟩ : ∃ m', m = m' + 1 := ⟨m - 1, by omega⟩
  refine ⟨hk, ?_⟩
  by_cases q1 : sg k = 33
  · rw [fvf_s (a' := 0) (d' := d) (l' := l) (by unfold stp; rw [if_pos rfl, if_pos q1])] at h5
    exact Or.inl ⟨q1, m', l, by omega, by omega, h3, by omega, h5⟩
  by_cases q2 : sg k = 40
  · rw [fvf_s (a' := 0) (d' := d + 1) (l' := l) (by unfold stp; rw [if_pos rfl, if_neg q1, if_pos q2])] at h5
    exact Or.inr (Or.inl ⟨q2, m', l, by omega, by omega, by omega, by omega, h5⟩)
  by_cases q3 : ltr (sg k)
  · rw [fvf_s (a' := 1) (d' := d) (l' := sg k) (by unfold stp; rw [if_pos rfl, if_neg q1, if_neg q2, if_pos q3])] at h5
    exact Or.inr (Or.inr ⟨q3, m', by omega, h5⟩)
  · rw [fvf_n (by unfold stp; rw [if_pos rfl, if_neg q1, if_neg q2, if_neg q3])] at h5
    omega
/-- behind one -/
theorem gd_beh {v : LV} {sg : Int → Int} {N k a d : Int} (h : gd v sg N k a d) (hk : k < N) (ha : 5 ≤ a) (hd : ¬ (dgt (sg k) ∧ a < 11)) : ((sg k = 38 ∨ sg k = 124) ∧ gd v sg N (k + 1) 0 d) ∨ (sg k = 41 ∧ 0 < d ∧ gd v sg N (k + 1) 20 (d - 1)) := by
  obtain ⟨m, l, h1, h2, h3, h4, h5⟩ := h
  obtain ⟨m', rfl⟩ : ∃ m', m = m' + 1 := ⟨m - 1, by omega⟩
  have es : stp v a d l (sg k) = (bhd d (sg k)).map (fun q => (q.1, q.2, l)) := by
    unfold stp
    rw [if_neg (by omega), if_neg (by omega), if_neg (by omega), if_neg (by omega), if_neg (by omega), if_neg hd]
  by_cases q1 : sg k = 38 ∨ sg k = 124
  · rw [fvf_s (a' := 0) (d' := d) (l' := l) (by rw [es]; unfold bhd; rw [if_pos q1]; rfl)] at h5
    exact Or.inl ⟨q1, m', l, by omega, by omega, h3, by omega, h5⟩
  by_cases q2 : sg k = 41 ∧ 0 < d
  · rw [fvf_s (a' := 20) (d' := d - 1) (l' := l) (by rw [es]; unfold bhd; rw [if_neg q1, if_pos q2]; rfl)] at h5
    exact Or.inr ⟨q2.1, q2.2, m', l, by omega, by omega, by omega, by omega, h5⟩
  · rw [fvf_n (by rw [es]; unfold bhd; rw [if_neg q1, if_neg q2]; rfl)] at h5
    omega
/-- the digits of a number -/
theorem gd_dig {v : LV} {sg : Int → Int} {N d l : Int} (hd : 0 ≤ d) : ∀ (n m : Nat) (k a acc : Int), a + n = 11 → 5 ≤ a → k + m = N → 0 ≤ k → d ≤ k → fvf v sg N m k a d l = -10000009 →
    k ≤ (nmb sg N n k acc).2 ∧ (nmb sg N n k acc).2 ≤ k + n ∧ (nmb sg N n k acc).2 ≤ N ∧ ∃ a', 5 ≤ a' ∧ gd v sg N (nmb sg N n k acc).2 a' d ∧ ((nmb sg N n k acc).2 < N → ¬ dgt (sg (nmb sg N n k acc).2))
  | 0, m, k, a, acc, h1, h2, h3, h4, h5, h6 => by
    refine ⟨Int.le_refl _, ?_, ?_, a, h2, ⟨m, l, h3, h4, hd, h5, h6⟩, ?_⟩
    · show k ≤ k + 0; omega
    · show k ≤ N; omega
    · intro hk q
      have hk' : k < N := hk
      have q' : dgt (sg k) := q
      have := gd_beh ⟨m, l, h3, h4, hd, h5, h6⟩ hk' h2 (by omega)
      unfold dgt at q'
      omega
  | n + 1, m, k, a, acc, h1, h2, h3, h4, h5, h6 => by
    rw [nmb]
    by_cases q : k < N ∧ dgt (sg k)
    · rw [if_pos q]
      obtain ⟨m', rfl⟩ : ∃ m', m = m' + 1 := ⟨m - 1, by omega⟩
      rw [fvf_s (a' := a + 1) (d' := d) (l' := l) (by unfold stp; rw [if_neg (by omega), if_neg (by omega), if_neg (by omega), if_neg (by omega), if_neg (by omega), if_pos ⟨q.2, by omega⟩])] at h6
      have := gd_dig hd n m' (k + 1) (a + 1) (acc * 10 + sg k - 48) (by omega) (by omega) (by omega) (by omega) (by omega) h6
      exact ⟨by omega, by omega, this.2.2.1, this.2.2.2⟩
    · rw [if_neg q]
      refine ⟨Int.le_refl _, ?_, ?_, a, h2, ⟨m, l, h3, h4, hd, h5, h6⟩, fun hk z => q ⟨hk, z⟩⟩
      · show k ≤ k + ((n + 1 : Nat) : Int); omega
      · show k ≤ N; omega
def sgn (sg : Int → Int) (k : Int) : Int := if sg (k + 3) = 45 then 1 else 0
/-- a whole comparison -/
theorem gd_cmp {v : LV} {sg : Int → Int} {N k d : Int} (hk : 0 ≤ k) (hd : 0 ≤ d ∧ d ≤ k) {m : Nat} (hm : k + 1 + m = N) (h : fvf v sg N m (k + 1) 1 d (sg k) = -10000009) :
    (dgt (sg (k + 1)) ∧ sg (k + 1) - 48 < cnt v (sg k)) ∧ k + 3 + sgn sg k < N ∧ k + 3 + sgn sg k < (nmb sg N 7 (k + 3 + sgn sg k) 0).2 ∧ (nmb sg N 7 (k + 3 + sgn sg k) 0).2 ≤ N ∧ ∃ a', 5 ≤ a' ∧ gd v sg N (nmb sg N 7 (k + 3 + sgn sg k) 0).2 a' d ∧ ((nmb sg N 7 (k + 3 + sgn sg k) 0).2 < N → ¬ dgt (sg (nmb sg N 7 (k + 3 + sgn sg k) 0).2)) := by
  have n1 : m ≠ 0 := by intro z; subst z; rw [fvf, if_neg (by omega)] at h; omega
  obtain ⟨m1, rfl⟩ : ∃ m', m = m' + 1 := ⟨m - 1, by omega⟩
  by_cases q1 : ¬ (dgt (sg (k + 1)) ∧ sg (k + 1) - 48 < cnt v (sg k))
  · rw [fvf_n (by unfold stp; rw [if_neg (by omega), if_pos rfl, if_neg q1])] at h; omega
  have q1 := Decidable.of_not_not q1
  refine ⟨q1, ?_⟩
  rw [fvf_s (a' := 2) (d' := d) (l' := sg k) (by unfold stp; rw [if_neg (by omega), if_pos rfl, if_pos q1])] at h
  have n2 : m1 ≠ 0 := by intro z; subst z; rw [fvf, if_neg (by omega)] at h; omega
  obtain ⟨m2, rfl⟩ : ∃ m', m1 = m' + 1 := ⟨m1 - 1, by omega⟩
  by_cases q2 : ¬ (sg (k + 1 + 1) = 60 ∨ sg (k + 1 + 1) = 62 ∨ sg (k + 1 + 1) = 61)
  · rw [fvf_n (by unfold stp; rw [if_neg (by omega), if_neg (by omega), if_pos rfl, if_neg q2])] at h; omega
  have q2 := Decidable.of_not_not q2
  rw [fvf_s (a' := 3) (d' := d) (l' := sg k) (by unfold stp; rw [if_neg (by omega), if_neg (by omega), if_pos rfl, if_pos q2])] at h
  have n3 : m2 ≠ 0 := by intro z; subst z; rw [fvf, if_neg (by omega)] at h; omega
  obtain ⟨m3, rfl⟩ : ∃ m', m2 = m' + 1 := ⟨m2 - 1, by omega⟩
  rw [show k + 1 + 1 + 1 = k + 3 by omega] at h
  have fin : ∀ (j : Int) (m : Nat), 0 ≤ j → d ≤ j → j + 1 + m = N → dgt (sg j) → fvf v sg N m (j + 1) 5 d (sg k) = -10000009 → j < N ∧ j < (nmb sg N 7 j 0).2 ∧ (nmb sg N 7 j 0).2 ≤ N ∧ ∃ a', 5 ≤ a' ∧ gd v sg N (nmb sg N 7 j 0).2 a' d ∧ ((nmb sg N 7 j 0).2 < N → ¬ dgt (sg (nmb sg N 7 j 0).2)) := by
    intro j m g1 g2 g3 g4 g5
    rw [show (7 : Nat) = 6 + 1 from rfl, nmb, if_pos ⟨by omega, g4⟩]
    have := gd_dig hd.1 6 m (j + 1) 5 (0 * 10 + sg j - 48) (by omega) (by omega) g3 (by omega) (by omega) g5
    exact ⟨by omega, by omega, this.2.2.1, this.2.2.2⟩
  unfold sgn
  by_cases q3 : sg (k + 3) = 45
  · rw [if_pos q3]
    rw [fvf_s (a' := 4) (d' := d) (l' := sg k) (by unfold stp; rw [if_neg (by omega), if_neg (by omega), if_neg (by omega), if_pos rfl, if_pos q3])] at h
    have n4 : m3 ≠ 0 := by intro z; subst z; rw [fvf, if_neg (by omega)] at h; omega
    obtain ⟨m4, rfl⟩ : ∃ m', m3 = m' + 1 := ⟨m3 - 1, by omega⟩
    by_cases q4 : ¬ (dgt (sg (k + 3 + 1)))
    · rw [fvf_n (by unfold stp; rw [if_neg (by omega), if_neg (by omega), if_neg (by omega), if_neg (by omega), if_pos rfl, if_neg q4])] at h; omega
    have q4 := Decidable.of_not_not q4
    rw [fvf_s (a' := 5) (d' := d) (l' := sg k) (by unfold stp; rw [if_neg (by omega), if_neg (by omega), if_neg (by omega), if_neg (by omega), if_pos rfl, if_pos q4])] at h
    exact fin (k + 3 + 1) m4 (by omega) (by omega) (by omega) q4 h
  · rw [if_neg q3, Int.add_zero]
    by_cases q4 : ¬ (dgt (sg (k + 3)))
    · rw [fvf_n (by unfold stp; rw [if_neg (by omega), if_neg (by omega), if_neg (by omega), if_pos rfl, if_neg q3, if_neg q4])] at h; omega
    have q4 := Decidable.of_not_not q4
    rw [fvf_s (a' := 5) (d' := d) (l' := sg k) (by unfold stp; rw [if_neg (by omega), if_neg (by omega), if_neg (by omega), if_pos rfl, if_neg q3, if_pos q4])] at h
    exact fin (k + 3) m3 (by omega) (by omega) (by omega) q4 h
