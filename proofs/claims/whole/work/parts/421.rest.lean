/-! heads solve the equations; at most one pattern fits -/
theorem src_abs {v : LV} (hv : wfL v) (p : Int) : ∃ s : Nat → Int, (∀ i, i < nn v 0 → -s i ≤ src v p i ∧ src v p i ≤ s i) ∧ (∀ i, i < nn v 0 → 0 ≤ s i) ∧ sumn (nn v 0) s ≤ 45891 := by
  have e0 := nn_c hv 0 (by omega)
  have e2 := nn_c hv 2 (by omega)
  have e3 := nn_c hv 3 (by omega)
  have e4 := nn_c hv 4 (by omega)
  have h0 := hv.1
  have h2 := hv.2.2.1
  have h3 := hv.2.2.2.1
  have h4 := hv.2.2.2.2.1
  refine ⟨fun i => v.1 1 i + sumn (nn v 2) (fun r => nb (v.1 6 r) i * 9000) + sumn (nn v 3) (fun d => nb (v.1 10 d) i * 9000) + sumn (nn v 4) (fun w => nb (v.1 13 w) i * 99), fun i hi => ?_, fun i hi => ?_, ?_⟩
  · have a := hv.2.2.2.2.2.1 i hi
    have b1 : srcr v p (nn v 2) i ≤ sumn (nn v 2) (fun r => nb (v.1 6 r) i * 9000) := sumn_le (fun r hr => by
      have h := hv.2.2.2.2.2.2.2.1 r hr
      refine Int.mul_le_mul_of_nonneg_left ?_ (nb_nn _ _).1
      have m := mul_mono (a := v.1 9 r) (b := 9) (c := if bt p r then v.1 7 r else v.1 7 r - v.1 8 r) (d := 1000) (by omega) (by split <;> omega) (by split <;> omega) (by omega)
      omega)
    have b2 : 0 ≤ srcr v p (nn v 2) i := sumn_nn (fun r hr => by
      have h := hv.2.2.2.2.2.2.2.1 r hr
      exact Int.mul_nonneg (nb_nn _ _).1 (Int.mul_nonneg (by omega) (by split <;> omega)))
    have c1 : srcd v p (nn v 3) i ≤ sumn (nn v 3) (fun d => nb (v.1 10 d) i * 9000) := sumn_le (fun d hd => by
      have h := hv.2.2.2.2.2.2.2.2.1 d hd
      split
      · refine Int.mul_le_mul_of_nonneg_left ?_ (nb_nn _ _).1
        have m := mul_mono (a := v.1 12 d) (b := 9) (c := v.1 11 d) (d := 1000) (by omega) (by omega) (by omega) (by omega)
        omega
      · exact Int.mul_nonneg (nb_nn _ _).1 (by omega))
    have c2 : 0 ≤ srcd v p (nn v 3) i := sumn_nn (fun d hd => by
      have h := hv.2.2.2.2.2.2.2.2.1 d hd
      split
      · exact Int.mul_nonneg (nb_nn _ _).1 (Int.mul_nonneg (by omega) (by omega))
      · omega)
    have d1 : srcw v (nn v 4) i ≤ sumn (nn v 4) (fun w => nb (v.1 13 w) i * 99) := sumn_le (fun w hw => by
      have h := hv.2.2.2.2.2.2.2.2.2 w hw
      exact Int.mul_le_mul_of_nonneg_left (by omega) (nb_nn _ _).1)
    have d2 : 0 ≤ srcw v (nn v 4) i := sumn_nn (fun w hw => by
      have h := hv.2.2.2.2.2.2.2.2.2 w hw
      exact Int.mul_nonneg (nb_nn _ _).1 (by omega))
    unfold src
    show -(v.1 1 i + sumn (nn v 2) (fun r => nb (v.1 6 r) i * 9000) + sumn (nn v 3) (fun d => nb (v.1 10 d) i * 9000) + sumn (nn v 4) (fun w => nb (v.1 13 w) i * 99)) ≤ _ ∧ _ ≤ v.1 1 i + sumn (nn v 2) (fun r => nb (v.1 6 r) i * 9000) + sumn (nn v 3) (fun d => nb (v.1 10 d) i * 9000) + sumn (nn v 4) (fun w => nb (v.1 13 w) i * 99)
    constructor <;> omega
  · have a := hv.2.2.2.2.2.1 i hi
    have b : 0 ≤ sumn (nn v 2) (fun r => nb (v.1 6 r) i * 9000) := sumn_nn (fun r _ => Int.mul_nonneg (nb_nn _ _).1 (by omega))
    have c : 0 ≤ sumn (nn v 3) (fun d => nb (v.1 10 d) i * 9000) := sumn_nn (fun r _ => Int.mul_nonneg (nb_nn _ _).1 (by omega))
    have d : 0 ≤ sumn (nn v 4) (fun w => nb (v.1 13 w) i * 99) := sumn_nn (fun r _ => Int.mul_nonneg (nb_nn _ _).1 (by omega))
    show 0 ≤ v.1 1 i + _ + _ + _
    omega
  · rw [sumn_add, sumn_add, sumn_add, sumn_swap (nn v 0) (nn v 2), sumn_swap (nn v 0) (nn v 3), sumn_swap (nn v 0) (nn v 4)]
    have a : sumn (nn v 0) (fun i => v.1 1 i) ≤ (nn v 0 : Int) * 99 := sumn_ub (fun i hi => (hv.2.2.2.2.2.1 i hi).2)
    have b : sumn (nn v 2) (fun r => sumn (nn v 0) (fun i => nb (v.1 6 r) i * 9000)) ≤ (nn v 2 : Int) * 9000 := sumn_ub (fun r hr => by
      have h := hv.2.2.2.2.2.2.2.1 r hr
      rw [nb_sum h.1.1 (by omega) (fun _ => 9000)]
      exact Int.le_refl _)
    have c : sumn (nn v 3) (fun d => sumn (nn v 0) (fun i => nb (v.1 10 d) i * 9000)) ≤ (nn v 3 : Int) * 9000 := sumn_ub (fun r hr => by
      have h := hv.2.2.2.2.2.2.2.2.1 r hr
      rw [nb_sum h.1.1 (by omega) (fun _ => 9000)]
      exact Int.le_refl _)
    have d : sumn (nn v 4) (fun w => sumn (nn v 0) (fun i => nb (v.1 13 w) i * 99)) ≤ (nn v 4 : Int) * 99 := sumn_ub (fun r hr => by
      have h := hv.2.2.2.2.2.2.2.2.2 r hr
      rw [nb_sum h.1.1 (by omega) (fun _ => 99)]
      exact Int.le_refl _)
    omega
/-- the inverse times the sources: partial sums are small, the whole is Cramer's -/
theorem tops_part {v : LV} (hv : wfL v) {p D : Int} {m : Nat → Nat → Int} (h : adjOK v p D m) {c : Nat} (hc : c < nn v 0) : ∀ z, z ≤ nn v 0 → -42889728600000 ≤ sumn z (fun i => m c i * src v p i) ∧ sumn z (fun i => m c i * src v p i) ≤ 42889728600000 := by
  intro z hz
  obtain ⟨s, s1, s2, s3⟩ := src_abs hv p
  have hs : sumn z s ≤ sumn (nn v 0) s := by
    have : ∀ n, z ≤ n → (∀ i, i < n → 0 ≤ s i) → sumn z s ≤ sumn n s := by
      intro n
      induction n with
      | zero => intro h1 _; rw [show z = 0 by omega]; exact Int.le_refl _
      | succ n ih =>
        intro h1 h2
        by_cases q : z = n + 1
        · rw [q]; exact Int.le_refl _
        · have a := ih (by omega) (fun i hi => h2 i (by omega))
          have b := h2 n (by omega)
          show _ ≤ sumn n s + s n
          omega
    exact this _ hz s2
  have u : sumn z (fun i => m c i * src v p i) ≤ sumn z (fun i => 934600000 * s i) := sumn_le (fun i hi => by
    have a := h.2.2.2 c i hc (by omega)
    have b := s1 i (by omega)
    have d := s2 i (by omega)
    exact Int.le_trans (Int.mul_le_mul_of_nonneg_left b.2 a.1) (Int.mul_le_mul_of_nonneg_right a.2 d))
  have l : sumn z (fun i => -934600000 * s i) ≤ sumn z (fun i => m c i * src v p i) := sumn_le (fun i hi => by
    have a := h.2.2.2 c i hc (by omega)
    have b := s1 i (by omega)
    have d := s2 i (by omega)
    have e1 := Int.mul_le_mul_of_nonneg_left b.1 a.1
    have e2 := Int.mul_le_mul_of_nonneg_right a.2 d
    have e3 : m c i * -s i = -(m c i * s i) := Int.mul_neg _ _
    have e4 : -934600000 * s i = -(934600000 * s i) := Int.neg_mul _ _
    omega)
  rw [sumn_mul] at u l
  constructor <;> omega
theorem tops_eq {v : LV} (hv : wfL v) {p D : Int} {m : Nat → Nat → Int} (h : adjOK v p D m) {c : Nat} (hc : c < nn v 0) : sumn (nn v 0) (fun i => m c i * src v p i) = upv v p c := by
  have hD := h.2.1.1
  have lin : ∀ i, i < nn v 0 → sumn (nn v 0) (fun c => mat v p i c * sumn (nn v 0) (fun j => m c j * src v p j)) = D * src v p i := by
    intro i hi
    have e : sumn (nn v 0) (fun c => mat v p i c * sumn (nn v 0) (fun j => m c j * src v p j)) = sumn (nn v 0) (fun c => sumn (nn v 0) (fun j => mat v p i c * m c j * src v p j)) := sumn_congr (fun c _ => by
      rw [← sumn_mul]
      exact sumn_congr (fun j _ => (Int.mul_assoc _ _ _).symm))
    rw [e, sumn_swap]
    have e2 : sumn (nn v 0) (fun j => sumn (nn v 0) (fun c => mat v p i c * m c j * src v p j)) = sumn (nn v 0) (fun j => D * uv i j * src v p j) := sumn_congr (fun j hj => by
      rw [sumn_mulr, h.2.2.1 i j hi hj])
    rw [e2, sumn_single (nn v 0) i _ hi (fun j _ hne => by unfold uv; rw [if_neg (fun z => hne z.symm), Int.mul_zero, Int.zero_mul])]
    unfold uv
    rw [if_pos rfl, Int.mul_one]
  have c1 := dt_cramer (nn v 0) (mat v p) (fun c => sumn (nn v 0) (fun j => m c j * src v p j)) (fun i => D * src v p i) lin c hc
  have c2 := dt_lin (nn v 0) c (mat v p) D 0 (src v p) (fun _ => 0) hc
  have c3 : (fun i => D * src v p i + 0 * (0 : Int)) = (fun i => D * src v p i) := by funext i; omega
  rw [c3, Int.zero_mul, Int.add_zero] at c2
  rw [c2] at c1
  have e : dt (nn v 0) (mat v p) = D := h.1.symm
  rw [e] at c1
  exact mul_cancel_pos hD c1
theorem up_range {v : LV} (hv : wfL v) {p : Int} (hd : detv v p ≠ 0) {c : Nat} (hc : c < nn v 0) : -42889728600000 ≤ upv v p c ∧ upv v p c ≤ 42889728600000 := by
  rcases adj_ex hv p with h | ⟨m, h⟩
  · exact absurd h hd
  · rw [← tops_eq hv h hc]
    exact tops_part hv h hc (nn v 0) (Nat.le_refl _)
theorem up_solves {v : LV} (hv : wfL v) {p : Int} (hd : detv v p ≠ 0) {i : Nat} (hi : i < nn v 0) : sumn (nn v 0) (fun c => mat v p i c * upv v p c) = detv v p * src v p i := by
  rcases adj_ex hv p with h | ⟨m, h⟩
  · exact absurd h hd
  · have e : sumn (nn v 0) (fun c => mat v p i c * upv v p c) = sumn (nn v 0) (fun c => sumn (nn v 0) (fun j => mat v p i c * m c j * src v p j)) := sumn_congr (fun c hc => by
      rw [← tops_eq hv h hc, ← sumn_mul]
      exact sumn_congr (fun j _ => (Int.mul_assoc _ _ _).symm))
    rw [e, sumn_swap]
    have e2 : sumn (nn v 0) (fun j => sumn (nn v 0) (fun c => mat v p i c * m c j * src v p j)) = sumn (nn v 0) (fun j => detv v p * uv i j * src v p j) := sumn_congr (fun j hj => by
      rw [sumn_mulr, h.2.2.1 i j hi hj])
    rw [e2, sumn_single (nn v 0) i _ hi (fun j _ hne => by unfold uv; rw [if_neg (fun z => hne z.symm), Int.mul_zero, Int.zero_mul])]
    unfold uv
    rw [if_pos rfl, Int.mul_one]
