/-! permits: numbers, and one comparison on each side -/
def tbl : Nat → Int
  | 0 => 0
  | c + 1 => tbl c * 10 + 9
theorem tbl_b {c : Nat} (h : c ≤ 7) : tbl c ≤ 9999999 := by
  rcases (show c = 0 ∨ c = 1 ∨ c = 2 ∨ c = 3 ∨ c = 4 ∨ c = 5 ∨ c = 6 ∨ c = 7 by omega) with e | e | e | e | e | e | e | e <;> subst e <;> decide
theorem tbl_s (c : Nat) : tbl (c + 1) = tbl c * 10 + 9 := rfl
theorem nmb_b {sg : Int → Int} {N : Int} : ∀ (n c : Nat) (k acc : Int), c + n = 7 → 0 ≤ acc → acc ≤ tbl c → 0 ≤ (nmb sg N n k acc).1 ∧ (nmb sg N n k acc).1 ≤ 9999999
  | 0, c, k, acc, h1, h2, h3 => by
    have := tbl_b (c := c) (by omega)
    exact ⟨h2, by show acc ≤ _; omega⟩
  | n + 1, c, k, acc, h1, h2, h3 => by
    rw [nmb]
    by_cases q : k < N ∧ dgt (sg k)
    · rw [if_pos q]
      have q2 := q.2
      unfold dgt at q2
      exact nmb_b n (c + 1) (k + 1) _ (by omega) (by omega) (by rw [tbl_s]; omega)
    · rw [if_neg q]
      have := tbl_b (c := c) (by omega)
      exact ⟨h2, by show acc ≤ _; omega⟩
def FPl : Nat → Nat → Prop := fun k j => k = 42 ∧ j = 10
theorem cnum {sg : Int → Int} {N : Int} (hN : N ≤ 200) {z : Int} : ∀ (n fuel c : Nat) (k acc : Int) (s : GM), c + n = 7 → n < fuel → 0 ≤ k → 0 ≤ acc → acc ≤ tbl c → s.1 43 = sg → s.2 42 2 = N → s.2 42 10 = k →
    ∃ s', k_X4_readNumber_49 fuel z acc (c : Int) s = k_X4_readNumber_112 z (nmb sg N n k acc).1 s' ∧ ofr nP FPl s s' ∧ s'.2 42 10 = (nmb sg N n k acc).2
  | n, 0, c, k, acc, s, h1, h2, h3, h4, h5, e1, e2, e3 => by omega
  | 0, f + 1, c, k, acc, s, h1, h2, h3, h4, h5, e1, e2, e3 => by
    rw [k_X4_readNumber_49, if_neg (by omega)]
    exact ⟨s, rfl, ofr.rfl, e3⟩
  | n + 1, f + 1, c, k, acc, s, h1, h2, h3, h4, h5, e1, e2, e3 => by
    rw [k_X4_readNumber_49, if_pos (by omega), e2, e3, nmb]
    by_cases q0 : ¬ (k < N)
    · rw [if_neg q0, if_neg (fun w => q0 w.1)]
      exact ⟨s, rfl, ofr.rfl, e3⟩
    have q0 := Decidable.of_not_not q0
    rw [if_pos q0, ck_pos (by omega), e1]
    by_cases q : dgt (sg k)
    · have q2 := q
      unfold dgt at q2
      have b := tbl_b (c := c + 1) (by omega)
      rw [tbl_s] at b
      rw [cdig_y q, bdS_eq, if_neg (by decide), if_pos ⟨q0, q⟩]
      unfold lm lt
      dsimp only
      rw [e3, ck_pos (by omega), gF_1, e1, w32i (x := k + 1) (by omega) (by omega), w32i (x := acc * 10) (by omega) (by omega), w32i (x := acc * 10 + sg k) (by omega) (by omega), w32i (x := acc * 10 + sg k - 48) (by omega) (by omega), w32i (x := (c : Int) + 1) (by omega) (by omega)]
      obtain ⟨s', g1, g2, g3⟩ := cnum hN n f (c + 1) (k + 1) (acc * 10 + sg k - 48) (gF s 42 10 (k + 1)) (by omega) (by omega) (by omega) (by omega) (by rw [tbl_s]; omega) (by rw [gF_1, e1]) (by rw [gF_ne _ _ (by omega), e2]) (gF_same _ _ _ _)
      exact ⟨s', g1, (ofr.rfl.f ⟨rfl, rfl⟩).trans g2, g3⟩
    · rw [cdig_n q, bdS_eq, if_pos rfl, if_neg (fun w => q w.2)]
      exact ⟨s, rfl, ofr.rfl, e3⟩
theorem mnum {sg : Int → Int} {N : Int} (hN : N ≤ 200) {kL : Int → Int → GM → Option (Int × GM)} {z1 z4 z5 z6 : Int} {s : GM} (e1 : s.1 88 = sg) (e2 : s.2 53 44 = N) : ∀ (n fuel c : Nat) (k acc : Int), c + n = 7 → n < fuel → 0 ≤ k → 0 ≤ acc → acc ≤ tbl c → ((nmb sg N n k acc).2 < N → ¬ dgt (sg (nmb sg N n k acc).2)) →
    k_X12_isHeld_221 kL fuel z1 k z4 z5 z6 acc s = k_X12_isHeld_264 kL z1 (nmb sg N n k acc).2 z4 z5 z6 (nmb sg N n k acc).1 s
  | n, 0, c, k, acc, h1, h2, h3, h4, h5, h6 => by omega
  | 0, f + 1, c, k, acc, h1, h2, h3, h4, h5, h6 => by
    rw [k_X12_isHeld_221, e2]
    by_cases q0 : k < N
    · rw [if_pos q0, ck_pos (by omega), e1, mdig_n (show ¬ dgt (sg k) from h6 q0), bdS_eq, if_pos rfl]; rfl
    · rw [if_neg q0]; rfl
  | n + 1, f + 1, c, k, acc, h1, h2, h3, h4, h5, h6 => by
    rw [nmb] at h6
    rw [k_X12_isHeld_221, e2, nmb]
    by_cases q0 : ¬ (k < N)
    · rw [if_neg q0, if_neg (fun w => q0 w.1)]
    have q0 := Decidable.of_not_not q0
    rw [if_pos q0, ck_pos (by omega), e1]
    by_cases q : dgt (sg k)
    · have q2 := q
      unfold dgt at q2
      have b := tbl_b (c := c + 1) (by omega)
      rw [tbl_s] at b
      rw [if_pos ⟨q0, q⟩] at h6
      rw [mdig_y q, bdS_eq, if_neg (by decide), if_pos ⟨q0, q⟩, ck_pos (by omega), e1]
      unfold lt
      rw [w32i (x := 10 * acc) (by omega) (by omega), w32i (x := 10 * acc + sg k) (by omega) (by omega), w32i (x := 10 * acc + sg k - 48) (by omega) (by omega), w32i (x := k + 1) (by omega) (by omega), show 10 * acc + sg k - 48 = acc * 10 + sg k - 48 by omega]
      exact mnum hN e1 e2 n f (c + 1) (k + 1) (acc * 10 + sg k - 48) (by omega) (by omega) (by omega) (by omega) (by rw [tbl_s]; omega) h6
    · rw [mdig_n q, bdS_eq, if_pos rfl, if_neg (fun w => q w.2)]
def cmpv (op x w : Int) : Int := if op = 60 then (if x < w then 1 else 0) else if op = 62 then (if w < x then 1 else 0) else if x = w then 1 else 0
def wrd (sg : Int → Int) (N k : Int) : Int := if sgn sg k = 0 then (nmb sg N 7 (k + 3 + sgn sg k) 0).1 else -(nmb sg N 7 (k + 3 + sgn sg k) 0).1
theorem sgn01 (sg : Int → Int) (k : Int) : (sg (k + 3) = 45 ∧ sgn sg k = 1) ∨ (sg (k + 3) ≠ 45 ∧ sgn sg k = 0) := by
  unfold sgn
  by_cases q : sg (k + 3) = 45
  · rw [if_pos q]; exact Or.inl ⟨q, rfl⟩
  · rw [if_neg q]; exact Or.inr ⟨q, rfl⟩
theorem cread {sg : Int → Int} {N k : Int} (hN : N ≤ 200) (hk : 0 ≤ k) (hk2 : k + 3 < N) {s : GM} (e1 : s.1 43 = sg) (e2 : s.2 42 2 = N) (e3 : s.2 42 10 = k + 3) :
    ∃ s', f_X4_readNumber s = some (wrd sg N k, s') ∧ ofr nP FPl s s' ∧ s'.2 42 10 = (nmb sg N 7 (k + 3 + sgn sg k) 0).2 := by
  unfold f_X4_readNumber wrd
  rw [e2, e3, if_pos hk2, ck_pos (by omega), e1]
  have b := nmb_b (sg := sg) (N := N) 7 0 (k + 3 + sgn sg k) 0 (by omega) (by omega) (by decide)
  rcases sgn01 sg k with ⟨q1, q2⟩ | ⟨q1, q2⟩
  · rw [if_pos q1]
    rw [q2] at b ⊢
    unfold k_X4_readNumber_30 lm
    rw [if_neg (by decide), e3, w32i (x := k + 3 + 1) (by omega) (by omega)]
    obtain ⟨s', g1, g2, g3⟩ := cnum hN (z := 1) 7 FU 0 (k + 3 + 1) 0 (gF s 42 10 (k + 3 + 1)) (by omega) (FU_gt (by omega)) (by omega) (by omega) (by decide) (by rw [gF_1, e1]) (by rw [gF_ne _ _ (by omega), e2]) (gF_same _ _ _ _)
    refine ⟨s', ?_, (ofr.rfl.f ⟨rfl, rfl⟩).trans g2, g3⟩
    refine Eq.trans g1 ?_
    unfold k_X4_readNumber_112
    rw [if_neg (by decide), w32i (by omega) (by omega), if_neg (by decide)]
  · rw [if_neg q1]
    rw [q2] at b ⊢
    unfold k_X4_readNumber_29 k_X4_readNumber_30
    rw [if_pos rfl, Int.add_zero]
    obtain ⟨s', g1, g2, g3⟩ := cnum hN (z := 0) 7 FU 0 (k + 3) 0 s (by omega) (FU_gt (by omega)) (by omega) (by omega) (by decide) e1 e2 e3
    refine ⟨s', ?_, g2, g3⟩
    refine Eq.trans g1 ?_
    unfold k_X4_readNumber_112
    rw [if_pos rfl, if_pos rfl]
