/-! permits: the grammar as a machine -/
def cnt (v : LV) (l : Int) : Int := if l = 100 then v.2 3 else if l = 103 then v.2 2 else if l = 104 then v.2 0 else if l = 113 then v.2 4 else v.2 1
def bhd (d x : Int) : Option (Int × Int) := if x = 38 ∨ x = 124 then some (0, d) else if x = 41 ∧ 0 < d then some (20, d - 1) else none
abbrev dgt (x : Int) : Prop := 48 ≤ x ∧ x ≤ 57
def stp (v : LV) (a d l x : Int) : Option (Int × Int × Int) :=
  if a = 0 then (if x = 33 then some (0, d, l) else if x = 40 then some (0, d + 1, l) else if x = 104 ∨ x = 113 ∨ x = 103 ∨ x = 100 ∨ x = 102 then some (1, d, x) else none)
  else if a = 1 then (if dgt x ∧ x - 48 < cnt v l then some (2, d, l) else none)
  else if a = 2 then (if x = 60 ∨ x = 62 ∨ x = 61 then some (3, d, l) else none)
  else if a = 3 then (if x = 45 then some (4, d, l) else if dgt x then some (5, d, l) else none)
  else if a = 4 then (if dgt x then some (5, d, l) else none)
  else if dgt x ∧ a < 11 then some (a + 1, d, l) else (bhd d x).map (fun q => (q.1, q.2, l))
def fvf (v : LV) (sg : Int → Int) (N : Int) : Nat → Int → Int → Int → Int → Int
  | 0, _, a, d, _ => if 5 ≤ a ∧ d = 0 then -10000009 else N
  | m + 1, k, a, d, l => match stp v a d l (sg k) with
    | none => k
    | some q => fvf v sg N m (k + 1) q.1 q.2.1 q.2.2
def okS (a d : Int) : Prop := ((0 ≤ a ∧ a ≤ 11) ∨ a = 20) ∧ 0 ≤ d
def crs (s : GM) (m a d l : Int) : Prop := s.2 42 4 = d ∧ ((0 ≤ a ∧ a ≤ 3 ∧ m = a) ∨ (4 ≤ a ∧ a ≤ 11 ∧ ((a = 4 ∧ m = 4) ∨ (a ≠ 4 ∧ m = 5)) ∧ s.2 42 5 = a - 4) ∨ (a = 20 ∧ m = 6)) ∧ (a = 1 → s.2 42 6 = l)
def FPc : Nat → Nat → Prop := fun k j => k = 42 ∧ (j = 4 ∨ j = 5 ∨ j = 6 ∨ j = 10)
def nP : Nat → Prop := fun _ => False
theorem cdig_y {x : Int} {s : GM} (h : dgt x) : f_X4_isDigit x s = some (1, s) := by unfold f_X4_isDigit; rw [if_neg (by omega), if_neg (by omega)]; rfl
theorem cdig_n {x : Int} {s : GM} (h : ¬ dgt x) : f_X4_isDigit x s = some (0, s) := by
  unfold f_X4_isDigit
  by_cases q : x < 48
  · rw [if_pos q]; rfl
  · rw [if_neg q, if_pos (by unfold dgt at h; omega)]; rfl
theorem mdig_y {x : Int} {s : GM} (h : dgt x) : f_X12_isDigit x s = some (1, s) := by unfold f_X12_isDigit; rw [in_y h]; rfl
theorem mdig_n {x : Int} {s : GM} (h : ¬ dgt x) : f_X12_isDigit x s = some (0, s) := by unfold f_X12_isDigit; rw [in_n h]; rfl
theorem there_eq {v : LV} (hv : wfL v) {b : Nat} {s : GM} (hc : cV b s = v) {l x : Int} (hl : s.2 42 6 = l) (hx : 0 ≤ x) : f_X4_isThere x s = some (if x < cnt v l then 1 else 0, s) := by
  unfold f_X4_isThere cnt
  rw [hl]
  by_cases q1 : l = 100
  · rw [if_pos q1, if_pos q1]
    by_cases g : x < v.2 3
    · rw [hasDrain_y (lcN3 hc) ⟨hx, g⟩, if_pos g]; rfl
    · rw [hasDrain_n (lcN3 hc) (fun z => g z.2), if_neg g]; rfl
  rw [if_neg q1, if_neg q1]
  by_cases q2 : l = 103
  · rw [if_pos q2, if_pos q2]
    by_cases g : x < v.2 2
    · rw [hasRiver_y (lcN2 hc) ⟨hx, g⟩, if_pos g]; rfl
    · rw [hasRiver_n (lcN2 hc) (fun z => g z.2), if_neg g]; rfl
  rw [if_neg q2, if_neg q2]
  by_cases q3 : l = 104
  · rw [if_pos q3, if_pos q3]
    by_cases g : x < v.2 0
    · rw [hasCell_y (lcN0 hc) ⟨hx, g⟩, if_pos g]; rfl
    · rw [hasCell_n (lcN0 hc) (fun z => g z.2), if_neg g]; rfl
  rw [if_neg q3, if_neg q3]
  by_cases q4 : l = 113
  · rw [if_pos q4, if_pos q4]
    by_cases g : x < v.2 4
    · rw [hasWell_y (lcN4 hc) ⟨hx, g⟩, if_pos g]; rfl
    · rw [hasWell_n (lcN4 hc) (fun z => g z.2), if_neg g]; rfl
  rw [if_neg q4, if_neg q4]
  by_cases g : x < v.2 1
  · rw [hasLink_y (lcN1 hc) ⟨hx, g⟩, if_pos g]; rfl
  · rw [hasLink_n (lcN1 hc) (fun z => g z.2), if_neg g]; rfl
/-- one sign on the one side -/
theorem cafter {v : LV} (hv : wfL v) {b : Nat} {μ s : GM} (hc : cV b s = v) (o : ofr nP FPc μ s) {m a d l x : Int} (h : crs s m a d l) (hd : 0 ≤ d ∧ d ≤ 200) :
    ∃ m' s', f_X4_after m x s = some (m', s') ∧ ofr nP FPc μ s' ∧ ((m' = 7 ∧ stp v a d l x = none) ∨ (m' ≠ 7 ∧ ∃ a' d' l', stp v a d l x = some (a', d', l') ∧ crs s' m' a' d' l' ∧ 0 ≤ d' ∧ d' ≤ d + 1)) := by
  obtain ⟨h4, hm, h6⟩ := h
  have f4 : FPc 42 4 := ⟨rfl, by omega⟩
  have f5 : FPc 42 5 := ⟨rfl, by omega⟩
  have f6 : FPc 42 6 := ⟨rfl, by omega⟩
  have beh : ∀ (s2 : GM), s2 = s → ∃ m' s', f_X4_afterBehind x s2 = some (m', s') ∧ ofr nP FPc μ s' ∧ ((m' = 7 ∧ bhd d x = none) ∨ (m' ≠ 7 ∧ ∃ a' d', bhd d x = some (a', d') ∧ (∀ l', a' ≠ 1 ∧ crs s' m' a' d' l') ∧ 0 ≤ d' ∧ d' ≤ d + 1)) := by
    intro s2 es
    subst es
    unfold f_X4_afterBehind bhd
    by_cases q1 : x = 38
    · rw [if_pos q1, if_pos (Or.inl q1)]
      exact ⟨0, s2, rfl, o, Or.inr ⟨by decide, 0, d, rfl, fun l' => ⟨by decide, h4, Or.inl ⟨by decide, by decide, rfl⟩, fun z => by omega⟩, by omega, by omega⟩⟩
    rw [if_neg q1]
    by_cases q2 : x = 124
    · rw [if_pos q2, if_pos (Or.inr q2)]
      exact ⟨0, s2, rfl, o, Or.inr ⟨by decide, 0, d, rfl, fun l' => ⟨by decide, h4, Or.inl ⟨by decide, by decide, rfl⟩, fun z => by omega⟩, by omega, by omega⟩⟩
    rw [if_neg q2, if_neg (show ¬ (x = 38 ∨ x = 124) by omega)]
    by_cases q3 : x = 41
    · rw [if_pos q3, h4]
      by_cases q4 : d = 0
      · rw [if_pos q4, if_neg (show ¬ (x = 41 ∧ 0 < d) by omega)]
        exact ⟨7, s2, rfl, o, Or.inl ⟨rfl, rfl⟩⟩
      · rw [if_neg q4, if_pos ⟨q3, by omega⟩]
        unfold lm
        rw [w32i (by omega) (by omega)]
        exact ⟨6, _, rfl, o.f f4, Or.inr ⟨by decide, 20, d - 1, rfl, fun l' => ⟨by decide, gF_same _ _ _ _, Or.inr (Or.inr ⟨rfl, rfl⟩), fun z => by omega⟩, by omega, by omega⟩⟩
    · rw [if_neg q3, if_neg (fun z => q3 z.1)]
      exact ⟨7, s2, rfl, o, Or.inl ⟨rfl, rfl⟩⟩
  -- a digit of a number
  have num : ∀ (s2 : GM) (k : Int), ofr nP FPc μ s2 → s2.2 42 4 = d → s2.2 42 5 = k → 0 ≤ k → ∃ m' s', f_X4_afterNumber x s2 = some (m', s') ∧ ofr nP FPc μ s' ∧ ((m' = 7 ∧ ¬ (dgt x ∧ k < 7)) ∨ (m' = 5 ∧ dgt x ∧ k < 7 ∧ s'.2 42 4 = d ∧ s'.2 42 5 = k + 1)) := by
    intro s2 k o2 e4 e5 hk
    unfold f_X4_afterNumber
    by_cases q : dgt x
    · rw [cdig_y q]
      unfold bd lm
      dsimp only
      rw [if_neg (by decide), e5]
      by_cases q2 : k < 7
      · rw [if_pos q2, w32i (by omega) (by omega)]
        refine ⟨5, _, rfl, o2.f f5, Or.inr ⟨rfl, q, q2, ?_, gF_same _ _ _ _⟩⟩
        rw [gF_ne _ _ (by omega)]; exact e4
      · rw [if_neg q2]
        exact ⟨7, s2, rfl, o2, Or.inl ⟨rfl, fun z => q2 z.2⟩⟩
    · rw [cdig_n q]
      exact ⟨7, s2, rfl, o2, Or.inl ⟨rfl, fun z => q z.1⟩⟩
  unfold f_X4_after stp
  rcases hm with ⟨ma, mb, mc⟩ | ⟨ma, mb, mc, md⟩ | ⟨ma, mb⟩
  · subst mc
    by_cases a0 : m = 0
    · subst a0
      rw [if_pos rfl, if_pos rfl]
      unfold f_X4_afterOne lm
      by_cases q1 : x = 33
      · rw [if_pos q1, if_pos q1]
        exact ⟨0, s, rfl, o, Or.inr ⟨by decide, 0, d, l, rfl, ⟨h4, Or.inl ⟨by decide, by decide, rfl⟩, fun z => by omega⟩, by omega, by omega⟩⟩
      rw [if_neg q1, if_neg q1]
      by_cases q2 : x = 40
      · rw [if_pos q2, if_pos q2, h4, w32i (by omega) (by omega)]
        exact ⟨0, _, rfl, o.f f4, Or.inr ⟨by decide, 0, d + 1, l, rfl, ⟨gF_same _ _ _ _, Or.inl ⟨by decide, by decide, rfl⟩, fun z => by omega⟩, by omega, by omega⟩⟩
      rw [if_neg q2, if_neg q2]
      dsimp only
      have good : (if x = 104 ∨ x = 113 ∨ x = 103 ∨ x = 100 ∨ x = 102 then some (1, d, x) else none) = some ((1 : Int), d, x) → ∃ m' s', bd (some ((1 : Int), gF s 42 6 x)) (fun x1 μ2 => some (x1, μ2)) = some (m', s') ∧ ofr nP FPc μ s' ∧ ((m' = 7 ∧ (if x = 104 ∨ x = 113 ∨ x = 103 ∨ x = 100 ∨ x = 102 then some ((1 : Int), d, x) else none) = none) ∨ (m' ≠ 7 ∧ ∃ a' d' l', (if x = 104 ∨ x = 113 ∨ x = 103 ∨ x = 100 ∨ x = 102 then some ((1 : Int), d, x) else none) = some (a', d', l') ∧ crs s' m' a' d' l' ∧ 0 ≤ d' ∧ d' ≤ d + 1)) := fun e => ⟨1, gF s 42 6 x, rfl, o.f f6, Or.inr ⟨by decide, 1, d, x, e, ⟨by rw [gF_ne _ _ (by omega)]; exact h4, Or.inl ⟨by decide, by decide, rfl⟩, fun _ => gF_same _ _ _ _⟩, by omega, by omega⟩⟩
      by_cases q3 : x = 104
      · rw [if_pos q3]; exact good (if_pos (by omega))
      rw [if_neg q3]
      by_cases q4 : x = 113
      · rw [if_pos q4]; exact good (if_pos (by omega))
      rw [if_neg q4]
      by_cases q5 : x = 103
      · rw [if_pos q5]; exact good (if_pos (by omega))
      rw [if_neg q5]
      by_cases q6 : x = 100
      · rw [if_pos q6]; exact good (if_pos (by omega))
      rw [if_neg q6]
      by_cases q7 : x = 102
      · rw [if_pos q7]; exact good (if_pos (by omega))
      rw [if_neg q7]
      exact ⟨7, gF s 42 6 x, rfl, o.f f6, Or.inl ⟨rfl, if_neg (by omega)⟩⟩
    rw [if_neg a0, if_neg a0]
    by_cases a1 : m = 1
    · subst a1
      rw [if_pos rfl, if_pos rfl]
      by_cases q : dgt x
      · rw [cdig_y q]
        unfold bd
        dsimp only
        rw [if_neg (by decide), w32i (by unfold dgt at q; omega) (by unfold dgt at q; omega), there_eq hv hc (h6 rfl) (by unfold dgt at q; omega)]
        dsimp only
        by_cases g : x - 48 < cnt v l
        · rw [if_pos g, if_neg (by decide), if_pos ⟨q, g⟩]
          exact ⟨2, s, rfl, o, Or.inr ⟨by decide, 2, d, l, rfl, ⟨h4, Or.inl ⟨by decide, by decide, rfl⟩, fun z => by omega⟩, by omega, by omega⟩⟩
        · rw [if_neg g, if_pos rfl, if_neg (fun z => g z.2)]
          exact ⟨7, s, rfl, o, Or.inl ⟨rfl, rfl⟩⟩
      · rw [cdig_n q, if_neg (fun z => q z.1)]
        exact ⟨7, s, rfl, o, Or.inl ⟨rfl, rfl⟩⟩
    rw [if_neg a1, if_neg a1]
    by_cases a2 : m = 2
    · subst a2
      rw [if_pos rfl, if_pos rfl]
      have good : x = 60 ∨ x = 62 ∨ x = 61 → ∃ m' s', some ((3 : Int), s) = some (m', s') ∧ ofr nP FPc μ s' ∧ ((m' = 7 ∧ (if x = 60 ∨ x = 62 ∨ x = 61 then some ((3 : Int), d, l) else none) = none) ∨ (m' ≠ 7 ∧ ∃ a' d' l', (if x = 60 ∨ x = 62 ∨ x = 61 then some ((3 : Int), d, l) else none) = some (a', d', l') ∧ crs s' m' a' d' l' ∧ 0 ≤ d' ∧ d' ≤ d + 1)) := fun e => ⟨3, s, rfl, o, Or.inr ⟨by decide, 3, d, l, if_pos e, ⟨h4, Or.inl ⟨by decide, by decide, rfl⟩, fun z => by omega⟩, by omega, by omega⟩⟩
      by_cases q1 : x = 60
      · rw [if_pos q1]; exact good (by omega)
      rw [if_neg q1]
      by_cases q2 : x = 62
      · rw [if_pos q2]; exact good (by omega)
      rw [if_neg q2]
      by_cases q3 : x = 61
      · rw [if_pos q3]; exact good (by omega)
      rw [if_neg q3]
      exact ⟨7, s, rfl, o, Or.inl ⟨rfl, if_neg (by omega)⟩⟩
    rw [if_neg a2, if_neg a2]
    by_cases a3 : m = 3
    · subst a3
      rw [if_pos rfl, if_pos rfl]
      unfold lm
      dsimp only
      by_cases q1 : x = 45
      · rw [if_pos q1, if_pos q1]
        exact ⟨4, _, rfl, o.f f5, Or.inr ⟨by decide, 4, d, l, rfl, ⟨by rw [gF_ne _ _ (by omega)]; exact h4, Or.inr (Or.inl ⟨by decide, by decide, Or.inl ⟨rfl, rfl⟩, gF_same _ _ _ _⟩), fun z => by omega⟩, by omega, by omega⟩⟩
      · rw [if_neg q1, if_neg q1]
        obtain ⟨m', s', e1, e2, e3⟩ := num (gF s 42 5 0) 0 (o.f f5) (by rw [gF_ne _ _ (by omega)]; exact h4) (gF_same _ _ _ _) (by omega)
        rw [e1]
        refine ⟨m', s', rfl, e2, ?_⟩
        rcases e3 with ⟨g1, g2⟩ | ⟨g1, g2, g3, g4, g5⟩
        · exact Or.inl ⟨g1, if_neg (fun z => g2 ⟨z, by decide⟩)⟩
        · exact Or.inr ⟨by omega, 5, d, l, if_pos g2, ⟨g4, Or.inr (Or.inl ⟨by decide, by decide, Or.inr ⟨by decide, g1⟩, by rw [g5]; rfl⟩), fun z => by omega⟩, by omega, by omega⟩
    rw [if_neg a3, if_neg a3]
    omega
  · rw [if_neg (show ¬ a = 0 by omega), if_neg (show ¬ a = 1 by omega), if_neg (show ¬ a = 2 by omega), if_neg (show ¬ a = 3 by omega), if_neg (show ¬ m = 0 by omega), if_neg (show ¬ m = 1 by omega), if_neg (show ¬ m = 2 by omega), if_neg (show ¬ m = 3 by omega)]
    by_cases a4 : a = 4
    · rw [if_pos a4, if_pos (show m = 4 by omega)]
      obtain ⟨m', s', e1, e2, e3⟩ := num s 0 o h4 (by omega) (by omega)
      rw [e1]
      refine ⟨m', s', rfl, e2, ?_⟩
      rcases e3 with ⟨g1, g2⟩ | ⟨g1, g2, g3, g4, g5⟩
      · exact Or.inl ⟨g1, if_neg (fun z => g2 ⟨z, by decide⟩)⟩
      · exact Or.inr ⟨by omega, 5, d, l, if_pos g2, ⟨g4, Or.inr (Or.inl ⟨by decide, by decide, Or.inr ⟨by decide, g1⟩, by rw [g5]; rfl⟩), fun z => by omega⟩, by omega, by omega⟩
    rw [if_neg a4, if_neg (show ¬ m = 4 by omega), if_pos (show m = 5 by omega)]
    by_cases q : dgt x
    · rw [cdig_y q]
      show ∃ m' s', bd (f_X4_afterNumber x s) (fun x16 μ17 => some (x16, μ17)) = some (m', s') ∧ _
      obtain ⟨m', s', e1, e2, e3⟩ := num s (a - 4) o h4 md (by omega)
      rw [e1]
      refine ⟨m', s', rfl, e2, ?_⟩
      rcases e3 with ⟨g1, g2⟩ | ⟨g1, g2, g3, g4, g5⟩
      · refine Or.inl ⟨g1, ?_⟩
        rw [if_neg (fun z => g2 ⟨z.1, by omega⟩)]
        unfold bhd
        rw [if_neg (by unfold dgt at q; omega), if_neg (by unfold dgt at q; omega)]; rfl
      · exact Or.inr ⟨by omega, a + 1, d, l, if_pos ⟨g2, by omega⟩, ⟨g4, Or.inr (Or.inl ⟨by omega, by omega, Or.inr ⟨by omega, g1⟩, by omega⟩), fun z => by omega⟩, by omega, by omega⟩
    · rw [cdig_n q, if_neg (fun z => q z.1)]
      show ∃ m' s', bd (f_X4_afterBehind x s) (fun x16 μ17 => some (x16, μ17)) = some (m', s') ∧ _
      obtain ⟨m', s', e1, e2, e3⟩ := beh s rfl
      rw [e1]
      refine ⟨m', s', rfl, e2, ?_⟩
      rcases e3 with ⟨g1, g2⟩ | ⟨g1, a', d', g2, g3, g4⟩
      · exact Or.inl ⟨g1, by rw [g2]; rfl⟩
      · exact Or.inr ⟨g1, a', d', l, by rw [g2]; rfl, (g3 l).2, g4⟩
  · rw [if_neg (show ¬ a = 0 by omega), if_neg (show ¬ a = 1 by omega), if_neg (show ¬ a = 2 by omega), if_neg (show ¬ a = 3 by omega), if_neg (show ¬ a = 4 by omega), if_neg (show ¬ m = 0 by omega), if_neg (show ¬ m = 1 by omega), if_neg (show ¬ m = 2 by omega), if_neg (show ¬ m = 3 by omega), if_neg (show ¬ m = 4 by omega), if_neg (show ¬ m = 5 by omega), if_neg (show ¬ (dgt x ∧ a < 11) by omega)]
    obtain ⟨m', s', e1, e2, e3⟩ := beh s rfl
    rw [e1]
    refine ⟨m', s', rfl, e2, ?_⟩
    rcases e3 with ⟨g1, g2⟩ | ⟨g1, a', d', g2, g3, g4⟩
    · exact Or.inl ⟨g1, by rw [g2]; rfl⟩
    · exact Or.inr ⟨g1, a', d', l, by rw [g2]; rfl, (g3 l).2, g4⟩
