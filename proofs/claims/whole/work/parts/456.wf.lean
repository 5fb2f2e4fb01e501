/-! lands that stay well formed -/
theorem wf_rain {v : LV} (hv : wfL v) (hw : wfX v) {c x : Int} (hx : 0 ≤ x ∧ x ≤ 99) : wfL (setA v 1 c x) ∧ wfX (setA v 1 c x) := by
  obtain ⟨a0, a1, a2, a3, a4, a5, a6, a7, a8, a9⟩ := hv
  refine ⟨⟨a0, a1, a2, a3, a4, fun i hi => ?_, a6, a7, a8, a9⟩, hw⟩
  rw [setA_at rfl]
  have := a5 i hi
  split <;> omega
theorem wf_ease {v : LV} (hv : wfL v) (hw : wfX v) {c x : Int} (hx : 1 ≤ x ∧ x ≤ 9) : wfL (setA v 5 c x) ∧ wfX (setA v 5 c x) := by
  obtain ⟨a0, a1, a2, a3, a4, a5, a6, a7, a8, a9⟩ := hv
  refine ⟨⟨a0, a1, a2, a3, a4, a5, fun i hi => ?_, a7, a8, a9⟩, hw⟩
  have := a6 i hi
  rw [setA_at rfl]
  refine ⟨this.1, this.2.1, this.2.2.1, ?_⟩
  split <;> omega
theorem wf_stage {v : LV} (hv : wfL v) (hw : wfX v) {c x : Int} (hx : v.1 8 c ≤ x ∧ x ≤ 1000) : wfL (setA v 7 c x) ∧ wfX (setA v 7 c x) := by
  obtain ⟨a0, a1, a2, a3, a4, a5, a6, a7, a8, a9⟩ := hv
  refine ⟨⟨a0, a1, a2, a3, a4, a5, a6, fun i hi => ?_, a8, a9⟩, hw⟩
  have := a7 i hi
  rw [setA_at rfl]
  refine ⟨this.1, ?_, this.2.2⟩
  show 0 ≤ v.1 8 i ∧ v.1 8 i ≤ (if (i : Int) = c then x else v.1 7 i) ∧ (if (i : Int) = c then x else v.1 7 i) ≤ 1000
  by_cases q : (i : Int) = c
  · rw [if_pos q, q]
    rw [q] at this
    omega
  · rw [if_neg q]; exact this.2.1
theorem wf_rate {v : LV} (hv : wfL v) (hw : wfX v) {c x : Int} (hc : 0 ≤ c ∧ c < v.2 4) (hx : 0 ≤ x ∧ x ≤ v.1 14 c) : wfL (setA v 16 c x) ∧ wfX (setA v 16 c x) := by
  have n4 := nn_c hv 4 (by omega)
  obtain ⟨a0, a1, a2, a3, a4, a5, a6, a7, a8, a9⟩ := hv
  obtain ⟨b0, b1, b2⟩ := hw
  have bc := b1 c.toNat (by omega)
  rw [show ((c.toNat : Nat) : Int) = c by omega] at bc
  refine ⟨⟨a0, a1, a2, a3, a4, a5, a6, a7, a8, fun i hi => ?_⟩, b0, fun i hi => ?_, fun i hi => ?_⟩
  · have := a9 i hi
    rw [setA_at rfl]
    refine ⟨this.1, ?_⟩
    split <;> omega
  · have := b1 i hi
    rw [setA_at rfl]
    refine ⟨this.1, this.2.1, ?_⟩
    show (if (i : Int) = c then x else v.1 16 i) ≤ v.1 14 i
    by_cases q : (i : Int) = c
    · rw [if_pos q, q]; exact hx.2
    · rw [if_neg q]; exact this.2.2
  · rw [setA_at rfl]
    have hi2 : nn v 4 ≤ i := hi
    rw [if_neg (by omega)]
    exact b2 i hi
theorem wf_cell {v : LV} (hv : wfL v) (hw : wfX v) {a b c : Int} (hn : v.2 0 < 6) (ha : 0 ≤ a ∧ a ≤ 500) (hb : 0 ≤ b ∧ b ≤ 99) (hc : 1 ≤ c ∧ c ≤ 9) : wfL (setN (setA (setA (setA v 0 (v.2 0) a) 1 (v.2 0) b) 2 (v.2 0) c) 0 (v.2 0 + 1)) ∧ wfX (setN (setA (setA (setA v 0 (v.2 0) a) 1 (v.2 0) b) 2 (v.2 0) c) 0 (v.2 0 + 1)) := by
  have n0 := nn_c hv 0 (by omega)
  obtain ⟨a0, a1, a2, a3, a4, a5, a6, a7, a8, a9⟩ := hv
  obtain ⟨b0, b1, b2⟩ := hw
  have nn' : nn (setN (setA (setA (setA v 0 (v.2 0) a) 1 (v.2 0) b) 2 (v.2 0) c) 0 (v.2 0 + 1)) 0 = nn v 0 + 1 := by
    show (v.2 0 + 1).toNat = _
    omega
  refine ⟨⟨⟨by show 0 ≤ v.2 0 + 1; omega, by show v.2 0 + 1 ≤ 6; omega⟩, a1, a2, a3, a4, fun i hi => ?_, fun i hi => ?_, fun i hi => ?_, fun i hi => ?_, fun i hi => ?_⟩, fun i hi => ?_, b1, b2⟩
  · rw [nn'] at hi
    show 0 ≤ (if (i : Int) = v.2 0 then b else v.1 1 i) ∧ (if (i : Int) = v.2 0 then b else v.1 1 i) ≤ 99
    by_cases q : (i : Int) = v.2 0
    · rw [if_pos q]; exact hb
    · rw [if_neg q]; exact a5 i (by omega)
  · have := a6 i hi
    show (0 ≤ v.1 3 i ∧ v.1 3 i < v.2 0 + 1) ∧ (0 ≤ v.1 4 i ∧ v.1 4 i < v.2 0 + 1) ∧ v.1 3 i ≠ v.1 4 i ∧ 1 ≤ v.1 5 i ∧ v.1 5 i ≤ 9
    omega
  · have := a7 i hi
    show (0 ≤ v.1 6 i ∧ v.1 6 i < v.2 0 + 1) ∧ (0 ≤ v.1 8 i ∧ v.1 8 i ≤ v.1 7 i ∧ v.1 7 i ≤ 1000) ∧ 1 ≤ v.1 9 i ∧ v.1 9 i ≤ 9
    omega
  · have := a8 i hi
    show (0 ≤ v.1 10 i ∧ v.1 10 i < v.2 0 + 1) ∧ (0 ≤ v.1 11 i ∧ v.1 11 i ≤ 1000) ∧ 1 ≤ v.1 12 i ∧ v.1 12 i ≤ 9
    omega
  · have := a9 i hi
    show (0 ≤ v.1 13 i ∧ v.1 13 i < v.2 0 + 1) ∧ 0 ≤ v.1 16 i ∧ v.1 16 i ≤ 99
    omega
  · rw [nn'] at hi
    show (0 ≤ (if (i : Int) = v.2 0 then a else v.1 0 i) ∧ (if (i : Int) = v.2 0 then a else v.1 0 i) ≤ 500) ∧ 1 ≤ (if (i : Int) = v.2 0 then c else v.1 2 i) ∧ (if (i : Int) = v.2 0 then c else v.1 2 i) ≤ 9
    by_cases q : (i : Int) = v.2 0
    · rw [if_pos q, if_pos q]; exact ⟨ha, hc⟩
    · rw [if_neg q, if_neg q]; exact b0 i (by omega)
theorem wf_link {v : LV} (hv : wfL v) (hw : wfX v) {a b c : Int} (hn : v.2 1 < 12) (ha : 0 ≤ a ∧ a < v.2 0) (hb : 0 ≤ b ∧ b < v.2 0) (hne : a ≠ b) (hc : 1 ≤ c ∧ c ≤ 9) : wfL (setN (setA (setA (setA v 3 (v.2 1) a) 4 (v.2 1) b) 5 (v.2 1) c) 1 (v.2 1 + 1)) ∧ wfX (setN (setA (setA (setA v 3 (v.2 1) a) 4 (v.2 1) b) 5 (v.2 1) c) 1 (v.2 1 + 1)) := by
  have n0 := nn_c hv 1 (by omega)
  obtain ⟨a0, a1, a2, a3, a4, a5, a6, a7, a8, a9⟩ := hv
  have nn' : nn (setN (setA (setA (setA v 3 (v.2 1) a) 4 (v.2 1) b) 5 (v.2 1) c) 1 (v.2 1 + 1)) 1 = nn v 1 + 1 := by
    show (v.2 1 + 1).toNat = _
    omega
  refine ⟨⟨a0, ⟨by show 0 ≤ v.2 1 + 1; omega, by show v.2 1 + 1 ≤ 12; omega⟩, a2, a3, a4, a5, fun i hi => ?_, a7, a8, a9⟩, hw⟩
  rw [nn'] at hi
  show (0 ≤ (if (i : Int) = v.2 1 then a else v.1 3 i) ∧ (if (i : Int) = v.2 1 then a else v.1 3 i) < v.2 0) ∧ (0 ≤ (if (i : Int) = v.2 1 then b else v.1 4 i) ∧ (if (i : Int) = v.2 1 then b else v.1 4 i) < v.2 0) ∧ (if (i : Int) = v.2 1 then a else v.1 3 i) ≠ (if (i : Int) = v.2 1 then b else v.1 4 i) ∧ 1 ≤ (if (i : Int) = v.2 1 then c else v.1 5 i) ∧ (if (i : Int) = v.2 1 then c else v.1 5 i) ≤ 9
  by_cases q : (i : Int) = v.2 1
  · simp only [if_pos q]
    exact ⟨ha, hb, hne, hc⟩
  · simp only [if_neg q]
    exact a6 i (by omega)
theorem wf_river {v : LV} (hv : wfL v) (hw : wfX v) {a b c d : Int} (hn : v.2 2 < 3) (ha : 0 ≤ a ∧ a < v.2 0) (hb : b ≤ 1000) (hc : 0 ≤ c ∧ c ≤ b) (hd : 1 ≤ d ∧ d ≤ 9) : wfL (setN (setA (setA (setA (setA v 6 (v.2 2) a) 7 (v.2 2) b) 8 (v.2 2) c) 9 (v.2 2) d) 2 (v.2 2 + 1)) ∧ wfX (setN (setA (setA (setA (setA v 6 (v.2 2) a) 7 (v.2 2) b) 8 (v.2 2) c) 9 (v.2 2) d) 2 (v.2 2 + 1)) := by
  have n0 := nn_c hv 2 (by omega)
  obtain ⟨a0, a1, a2, a3, a4, a5, a6, a7, a8, a9⟩ := hv
  have nn' : nn (setN (setA (setA (setA (setA v 6 (v.2 2) a) 7 (v.2 2) b) 8 (v.2 2) c) 9 (v.2 2) d) 2 (v.2 2 + 1)) 2 = nn v 2 + 1 := by
    show (v.2 2 + 1).toNat = _
    omega
  refine ⟨⟨a0, a1, ⟨by show 0 ≤ v.2 2 + 1; omega, by show v.2 2 + 1 ≤ 3; omega⟩, a3, a4, a5, a6, fun i hi => ?_, a8, a9⟩, hw⟩
  rw [nn'] at hi
  show (0 ≤ (if (i : Int) = v.2 2 then a else v.1 6 i) ∧ (if (i : Int) = v.2 2 then a else v.1 6 i) < v.2 0) ∧ (0 ≤ (if (i : Int) = v.2 2 then c else v.1 8 i) ∧ (if (i : Int) = v.2 2 then c else v.1 8 i) ≤ (if (i : Int) = v.2 2 then b else v.1 7 i) ∧ (if (i : Int) = v.2 2 then b else v.1 7 i) ≤ 1000) ∧ 1 ≤ (if (i : Int) = v.2 2 then d else v.1 9 i) ∧ (if (i : Int) = v.2 2 then d else v.1 9 i) ≤ 9
  by_cases q : (i : Int) = v.2 2
  · simp only [if_pos q]
    exact ⟨ha, ⟨hc.1, hc.2, hb⟩, hd⟩
  · simp only [if_neg q]
    exact a7 i (by omega)
theorem wf_drain {v : LV} (hv : wfL v) (hw : wfX v) {a b c : Int} (hn : v.2 3 < 2) (ha : 0 ≤ a ∧ a < v.2 0) (hb : 0 ≤ b ∧ b ≤ 1000) (hc : 1 ≤ c ∧ c ≤ 9) : wfL (setN (setA (setA (setA v 10 (v.2 3) a) 11 (v.2 3) b) 12 (v.2 3) c) 3 (v.2 3 + 1)) ∧ wfX (setN (setA (setA (setA v 10 (v.2 3) a) 11 (v.2 3) b) 12 (v.2 3) c) 3 (v.2 3 + 1)) := by
  have n0 := nn_c hv 3 (by omega)
  obtain ⟨a0, a1, a2, a3, a4, a5, a6, a7, a8, a9⟩ := hv
  have nn' : nn (setN (setA (setA (setA v 10 (v.2 3) a) 11 (v.2 3) b) 12 (v.2 3) c) 3 (v.2 3 + 1)) 3 = nn v 3 + 1 := by
    show (v.2 3 + 1).toNat = _
    omega
  refine ⟨⟨a0, a1, a2, ⟨by show 0 ≤ v.2 3 + 1; omega, by show v.2 3 + 1 ≤ 2; omega⟩, a4, a5, a6, a7, fun i hi => ?_, a9⟩, hw⟩
  rw [nn'] at hi
  show (0 ≤ (if (i : Int) = v.2 3 then a else v.1 10 i) ∧ (if (i : Int) = v.2 3 then a else v.1 10 i) < v.2 0) ∧ (0 ≤ (if (i : Int) = v.2 3 then b else v.1 11 i) ∧ (if (i : Int) = v.2 3 then b else v.1 11 i) ≤ 1000) ∧ 1 ≤ (if (i : Int) = v.2 3 then c else v.1 12 i) ∧ (if (i : Int) = v.2 3 then c else v.1 12 i) ≤ 9
  by_cases q : (i : Int) = v.2 3
  · simp only [if_pos q]
    exact ⟨ha, hb, hc⟩
  · simp only [if_neg q]
    exact a8 i (by omega)
theorem wf_well {v : LV} (hv : wfL v) (hw : wfX v) {a b c : Int} (hn : v.2 4 < 3) (ha : 0 ≤ a ∧ a < v.2 0) (hb : 0 ≤ b ∧ b ≤ 99) (hc : 0 ≤ c ∧ c ≤ 99) : wfL (setN (setA (setA (setA v 13 (v.2 4) a) 14 (v.2 4) b) 15 (v.2 4) c) 4 (v.2 4 + 1)) ∧ wfX (setN (setA (setA (setA v 13 (v.2 4) a) 14 (v.2 4) b) 15 (v.2 4) c) 4 (v.2 4 + 1)) := by
  have n0 := nn_c hv 4 (by omega)
  obtain ⟨a0, a1, a2, a3, a4, a5, a6, a7, a8, a9⟩ := hv
  obtain ⟨b0, b1, b2⟩ := hw
  have nn' : nn (setN (setA (setA (setA v 13 (v.2 4) a) 14 (v.2 4) b) 15 (v.2 4) c) 4 (v.2 4 + 1)) 4 = nn v 4 + 1 := by
    show (v.2 4 + 1).toNat = _
    omega
  refine ⟨⟨a0, a1, a2, a3, ⟨by show 0 ≤ v.2 4 + 1; omega, by show v.2 4 + 1 ≤ 3; omega⟩, a5, a6, a7, a8, fun i hi => ?_⟩, b0, fun i hi => ?_, fun i hi => ?_⟩
  · rw [nn'] at hi
    show (0 ≤ (if (i : Int) = v.2 4 then a else v.1 13 i) ∧ (if (i : Int) = v.2 4 then a else v.1 13 i) < v.2 0) ∧ 0 ≤ v.1 16 i ∧ v.1 16 i ≤ 99
    by_cases q : (i : Int) = v.2 4
    · simp only [if_pos q]
      have := b2 i (by omega)
      exact ⟨ha, by omega, by omega⟩
    · simp only [if_neg q]
      exact a9 i (by omega)
  · rw [nn'] at hi
    show (0 ≤ (if (i : Int) = v.2 4 then b else v.1 14 i) ∧ (if (i : Int) = v.2 4 then b else v.1 14 i) ≤ 99) ∧ (0 ≤ (if (i : Int) = v.2 4 then c else v.1 15 i) ∧ (if (i : Int) = v.2 4 then c else v.1 15 i) ≤ 99) ∧ v.1 16 i ≤ (if (i : Int) = v.2 4 then b else v.1 14 i)
    by_cases q : (i : Int) = v.2 4
    · simp only [if_pos q]
      have := b2 i (by omega)
      exact ⟨hb, hc, by omega⟩
    · simp only [if_neg q]
      exact b1 i (by omega)
  · rw [nn'] at hi
    exact b2 i (by omega)
