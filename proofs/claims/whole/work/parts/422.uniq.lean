/-! at most one pattern fits -/
theorem nb_at (x : Int) (i : Nat) (f : Nat → Int) : nb x i * f x.toNat = nb x i * f i := by
  unfold nb
  by_cases q : x = (i : Int)
  · rw [if_pos q, q]; rfl
  · rw [if_neg q, Int.zero_mul, Int.zero_mul]
theorem sumn_nn0 {n : Nat} {f : Nat → Int} (h : ∀ i, i < n → 0 ≤ f i) (hs : sumn n f ≤ 0) : ∀ i, i < n → f i = 0 := by
  induction n with
  | zero => intro i hi; omega
  | succ n ih =>
    have a := sumn_nn (n := n) (f := f) (fun i hi => h i (by omega))
    have b := h n (by omega)
    have c : sumn (n + 1) f = sumn n f + f n := rfl
    intro i hi
    by_cases q : i = n
    · subst q; omega
    · exact ih (fun i hi => h i (by omega)) (by omega) i (by omega)
theorem flow_eq {v : LV} (hv : wfL v) {p : Int} (hd : detv v p ≠ 0) (s : Int) {i : Nat} (hi : i < nn v 0) :
    sumn (nn v 1) (fun l => v.1 5 l * xl v l i * (upv v p (v.1 3 l).toNat * s - upv v p (v.1 4 l).toNat * s)) =
      detv v p * s * (v.1 1 i - srcw v (nn v 4) i) + sumn (nn v 2) (fun r => nb (v.1 6 r) i * (v.1 9 r * (detv v p * s * v.1 7 r - (if bt p r then upv v p (v.1 6 r).toNat * s else detv v p * s * v.1 8 r))))
      - sumn (nn v 3) (fun d => nb (v.1 10 d) i * (v.1 12 d * (if bt p (d + 3) then upv v p (v.1 10 d).toNat * s - detv v p * s * v.1 11 d else 0))) := by
  have e := up_solves hv hd hi
  rw [mat_mul hv p hi] at e
  have t1 : sumn (nn v 1) (fun l => v.1 5 l * xl v l i * (upv v p (v.1 3 l).toNat * s - upv v p (v.1 4 l).toNat * s)) = s * sumn (nn v 1) (fun l => v.1 5 l * xl v l i * (upv v p (v.1 3 l).toNat - upv v p (v.1 4 l).toNat)) := by
    rw [← sumn_mul]
    exact sumn_congr (fun l _ => by grind)
  have t2 : sumn (nn v 2) (fun r => nb (v.1 6 r) i * (v.1 9 r * (detv v p * s * v.1 7 r - (if bt p r then upv v p (v.1 6 r).toNat * s else detv v p * s * v.1 8 r)))) = s * (detv v p * srcr v p (nn v 2) i - tien v p (nn v 2) i * upv v p i) := by
    unfold srcr tien
    rw [← sumn_mul (nn v 2) (detv v p), ← sumn_mulr, ← sumn_sub, ← sumn_mul]
    refine sumn_congr (fun r _ => ?_)
    have z := nb_at (v.1 6 r) i (upv v p)
    by_cases q : bt p r
    · rw [if_pos q, if_pos q, if_pos q]; grind
    · rw [if_neg q, if_neg q, if_neg q]; grind
  have t3 : sumn (nn v 3) (fun d => nb (v.1 10 d) i * (v.1 12 d * (if bt p (d + 3) then upv v p (v.1 10 d).toNat * s - detv v p * s * v.1 11 d else 0))) = s * (rund v p (nn v 3) i * upv v p i - detv v p * srcd v p (nn v 3) i) := by
    unfold srcd rund
    rw [← sumn_mul (nn v 3) (detv v p), ← sumn_mulr, ← sumn_sub, ← sumn_mul]
    refine sumn_congr (fun r _ => ?_)
    have z := nb_at (v.1 10 r) i (upv v p)
    by_cases q : bt p (r + 3)
    · rw [if_pos q, if_pos q, if_pos q]; grind
    · rw [if_neg q, if_neg q, if_neg q]; grind
  rw [t1, t2, t3]
  unfold src at e
  grind
theorem mono_tie {b1 b2 : Prop} [Decidable b1] [Decidable b2] {x y B : Int} (h1 : B ≤ x ↔ b1) (h2 : B ≤ y ↔ b2) : 0 ≤ (x - y) * ((if b1 then x else B) - (if b2 then y else B)) ∧ ((x - y) * ((if b1 then x else B) - (if b2 then y else B)) = 0 → 0 < x - y → ¬ b2) := by
  by_cases q1 : b1
  · have a1 := h1.mpr q1
    by_cases q2 : b2
    · rw [if_pos q1, if_pos q2]
      refine ⟨sq_nn _, fun h h3 => ?_⟩
      have := Int.mul_pos h3 h3
      omega
    · have a2 : ¬ B ≤ y := fun z => q2 (h2.mp z)
      rw [if_pos q1, if_neg q2]
      exact ⟨Int.mul_nonneg (by omega) (by omega), fun _ _ => q2⟩
  · have a1 : ¬ B ≤ x := fun z => q1 (h1.mp z)
    by_cases q2 : b2
    · have a2 := h2.mpr q2
      rw [if_neg q1, if_pos q2]
      exact ⟨mul_np (by omega) (by omega), fun _ h => by omega⟩
    · rw [if_neg q1, if_neg q2]
      exact ⟨by rw [Int.sub_self, Int.mul_zero]; omega, fun _ _ => q2⟩
theorem mono_run {b1 b2 : Prop} [Decidable b1] [Decidable b2] {x y B : Int} (h1 : B < x ↔ b1) (h2 : B < y ↔ b2) : 0 ≤ (x - y) * ((if b1 then x - B else 0) - (if b2 then y - B else 0)) ∧ ((x - y) * ((if b1 then x - B else 0) - (if b2 then y - B else 0)) = 0 → 0 < x - y → ¬ b2) := by
  by_cases q1 : b1
  · have a1 := h1.mpr q1
    by_cases q2 : b2
    · rw [if_pos q1, if_pos q2]
      have e : x - B - (y - B) = x - y := by omega
      rw [e]
      refine ⟨sq_nn _, fun h h3 => ?_⟩
      have := Int.mul_pos h3 h3
      omega
    · have a2 : ¬ B < y := fun z => q2 (h2.mp z)
      rw [if_pos q1, if_neg q2]
      exact ⟨Int.mul_nonneg (by omega) (by omega), fun _ _ => q2⟩
  · have a1 : ¬ B < x := fun z => q1 (h1.mp z)
    by_cases q2 : b2
    · have a2 := h2.mpr q2
      rw [if_neg q1, if_pos q2]
      exact ⟨mul_np (by omega) (by omega), fun _ h => by omega⟩
    · rw [if_neg q1, if_neg q2]
      exact ⟨by rw [Int.sub_self, Int.mul_zero]; omega, fun _ _ => q2⟩
theorem scale_le {a b D s : Int} (hs : 0 < s) : (a * D ≤ b ↔ D * s * a ≤ b * s) := by
  have e : D * s * a = s * (a * D) := by grind
  have e2 : b * s = s * b := Int.mul_comm _ _
  rw [e, e2]
  exact ⟨fun h => Int.mul_le_mul_of_nonneg_left h (by omega), fun h => le_of_mul hs h⟩
theorem scale_lt {a b D s : Int} (hs : 0 < s) : (a * D < b ↔ D * s * a < b * s) := by
  have e : D * s * a = s * (a * D) := by grind
  have e2 : b * s = s * b := Int.mul_comm _ _
  rw [e, e2]
  exact ⟨fun h => Int.mul_lt_mul_of_pos_left h hs, fun h => Int.lt_of_mul_lt_mul_left h (by omega)⟩
theorem uniq_half {v : LV} (hv : wfL v) {p q : Int} (hp : isR v p) (hq : isR v q) : ∀ c, c < nn v 0 → upv v p c * detv v q ≤ upv v q c * detv v p := by
  have dp : 0 < detv v p := by have := det_range hv p; have := hp.1; omega
  have dq : 0 < detv v q := by have := det_range hv q; have := hq.1; omega
  have eD : detv v q * detv v p = detv v p * detv v q := Int.mul_comm _ _
  obtain ⟨D, hD⟩ : ∃ D, D = detv v p * detv v q := ⟨_, rfl⟩
  obtain ⟨x, hx⟩ : ∃ x : Nat → Int, x = fun c => upv v p c * detv v q := ⟨_, rfl⟩
  obtain ⟨y, hy⟩ : ∃ y : Nat → Int, y = fun c => upv v q c * detv v p := ⟨_, rfl⟩
  have n0 := nn_c hv 0 (by omega)
  have Ex : ∀ i, i < nn v 0 → _ := fun i hi => flow_eq hv hp.1 (detv v q) hi
  have Ey : ∀ i, i < nn v 0 → _ := fun i hi => flow_eq hv hq.1 (detv v p) hi
  rw [eD, ← hD] at Ey
  rw [← hD] at Ex
  have hxc : ∀ c, upv v p c * detv v q = x c := fun c => by rw [hx]
  have hyc : ∀ c, upv v q c * detv v p = y c := fun c => by rw [hy]
  simp only [hxc] at Ex
  simp only [hyc] at Ey
  have tr : ∀ r, r < nn v 2 → (D * v.1 8 r ≤ x (v.1 6 r).toNat ↔ bt p r) ∧ (D * v.1 8 r ≤ y (v.1 6 r).toNat ↔ bt q r) := fun r hr => by
    have a := hp.2.1 r hr
    have b := hq.2.1 r hr
    rw [scale_le (s := detv v q) dq, ← hD, hxc] at a
    rw [scale_le (s := detv v p) dp, eD, ← hD, hyc] at b
    exact ⟨a, b⟩
  have td : ∀ d, d < nn v 3 → (D * v.1 11 d < x (v.1 10 d).toNat ↔ bt p (d + 3)) ∧ (D * v.1 11 d < y (v.1 10 d).toNat ↔ bt q (d + 3)) := fun d hd => by
    have a := hp.2.2 d hd
    have b := hq.2.2 d hd
    rw [scale_lt (s := detv v q) dq, ← hD, hxc] at a
    rw [scale_lt (s := detv v p) dp, eD, ← hD, hyc] at b
    exact ⟨a, b⟩
  obtain ⟨w, hw⟩ : ∃ w : Nat → Int, w = fun c => x c - y c := ⟨_, rfl⟩
  have hwc : ∀ c, w c = x c - y c := fun c => by rw [hw]
  obtain ⟨F, hF⟩ : ∃ F : Nat → Int, F = fun r => (if bt p r then x (v.1 6 r).toNat else D * v.1 8 r) - (if bt q r then y (v.1 6 r).toNat else D * v.1 8 r) := ⟨_, rfl⟩
  obtain ⟨G, hG⟩ : ∃ G : Nat → Int, G = fun d => (if bt p (d + 3) then x (v.1 10 d).toNat - D * v.1 11 d else 0) - (if bt q (d + 3) then y (v.1 10 d).toNat - D * v.1 11 d else 0) := ⟨_, rfl⟩
  have E : ∀ i, i < nn v 0 → sumn (nn v 1) (fun l => v.1 5 l * xl v l i * (w (v.1 3 l).toNat - w (v.1 4 l).toNat)) + sumn (nn v 2) (fun r => nb (v.1 6 r) i * (v.1 9 r * F r)) + sumn (nn v 3) (fun d => nb (v.1 10 d) i * (v.1 12 d * G d)) = 0 := fun i hi => by
    have a := Ex i hi
    have b := Ey i hi
    have c1 : sumn (nn v 1) (fun l => v.1 5 l * xl v l i * (w (v.1 3 l).toNat - w (v.1 4 l).toNat)) = sumn (nn v 1) (fun l => v.1 5 l * xl v l i * (x (v.1 3 l).toNat - x (v.1 4 l).toNat)) - sumn (nn v 1) (fun l => v.1 5 l * xl v l i * (y (v.1 3 l).toNat - y (v.1 4 l).toNat)) := by
      rw [← sumn_sub]
      exact sumn_congr (fun l _ => by rw [hwc, hwc]; grind)
    have c2 : sumn (nn v 2) (fun r => nb (v.1 6 r) i * (v.1 9 r * F r)) = sumn (nn v 2) (fun r => nb (v.1 6 r) i * (v.1 9 r * (D * v.1 7 r - (if bt q r then y (v.1 6 r).toNat else D * v.1 8 r)))) - sumn (nn v 2) (fun r => nb (v.1 6 r) i * (v.1 9 r * (D * v.1 7 r - (if bt p r then x (v.1 6 r).toNat else D * v.1 8 r)))) := by
      rw [← sumn_sub]
      exact sumn_congr (fun l _ => by rw [hF]; grind)
    have c3 : sumn (nn v 3) (fun d => nb (v.1 10 d) i * (v.1 12 d * G d)) = sumn (nn v 3) (fun d => nb (v.1 10 d) i * (v.1 12 d * (if bt p (d + 3) then x (v.1 10 d).toNat - D * v.1 11 d else 0))) - sumn (nn v 3) (fun d => nb (v.1 10 d) i * (v.1 12 d * (if bt q (d + 3) then y (v.1 10 d).toNat - D * v.1 11 d else 0))) := by
      rw [← sumn_sub]
      exact sumn_congr (fun l _ => by rw [hG]; grind)
    omega
  have S1 : sumn (nn v 0) (fun i => sumn (nn v 1) (fun l => v.1 5 l * xl v l i * (w (v.1 3 l).toNat - w (v.1 4 l).toNat)) * w i) = sumn (nn v 1) (fun l => v.1 5 l * ((w (v.1 3 l).toNat - w (v.1 4 l).toNat) * (w (v.1 3 l).toNat - w (v.1 4 l).toNat))) := by
    rw [sumn_congr (fun i _ => (sumn_mulr (nn v 1) (w i) _).symm), sumn_swap]
    refine sumn_congr (fun l hl => ?_)
    rw [sumn_congr (g := fun i => v.1 5 l * (w (v.1 3 l).toNat - w (v.1 4 l).toNat) * (xl v l i * w i)) (fun i _ => by grind), sumn_mul, xl_sum hv hl]
    grind
  have S2 : sumn (nn v 0) (fun i => sumn (nn v 2) (fun r => nb (v.1 6 r) i * (v.1 9 r * F r)) * w i) = sumn (nn v 2) (fun r => v.1 9 r * (w (v.1 6 r).toNat * F r)) := by
    rw [sumn_congr (fun i _ => (sumn_mulr (nn v 2) (w i) _).symm), sumn_swap]
    refine sumn_congr (fun r hr => ?_)
    have h := hv.2.2.2.2.2.2.2.1 r hr
    rw [sumn_congr (g := fun i => nb (v.1 6 r) i * (v.1 9 r * F r * w i)) (fun i _ => by grind), nb_sum h.1.1 (by omega) (fun i => v.1 9 r * F r * w i)]
    grind
  have S3 : sumn (nn v 0) (fun i => sumn (nn v 3) (fun d => nb (v.1 10 d) i * (v.1 12 d * G d)) * w i) = sumn (nn v 3) (fun d => v.1 12 d * (w (v.1 10 d).toNat * G d)) := by
    rw [sumn_congr (fun i _ => (sumn_mulr (nn v 3) (w i) _).symm), sumn_swap]
    refine sumn_congr (fun r hr => ?_)
    have h := hv.2.2.2.2.2.2.2.2.1 r hr
    rw [sumn_congr (g := fun i => nb (v.1 10 r) i * (v.1 12 r * G r * w i)) (fun i _ => by grind), nb_sum h.1.1 (by omega) (fun i => v.1 12 r * G r * w i)]
    grind
  have tot : sumn (nn v 1) (fun l => v.1 5 l * ((w (v.1 3 l).toNat - w (v.1 4 l).toNat) * (w (v.1 3 l).toNat - w (v.1 4 l).toNat))) + sumn (nn v 2) (fun r => v.1 9 r * (w (v.1 6 r).toNat * F r)) + sumn (nn v 3) (fun d => v.1 12 d * (w (v.1 10 d).toNat * G d)) = 0 := by
    rw [← S1, ← S2, ← S3, ← sumn_add, ← sumn_add]
    refine sumn_all0 (fun i hi => ?_)
    rw [← Int.add_mul, ← Int.add_mul, E i hi, Int.zero_mul]
  have fr : ∀ r, r < nn v 2 → 0 ≤ w (v.1 6 r).toNat * F r ∧ (w (v.1 6 r).toNat * F r = 0 → 0 < w (v.1 6 r).toNat → ¬ bt q r) := fun r hr => by
    rw [hF, hwc]
    exact mono_tie (tr r hr).1 (tr r hr).2
  have fd : ∀ d, d < nn v 3 → 0 ≤ w (v.1 10 d).toNat * G d ∧ (w (v.1 10 d).toNat * G d = 0 → 0 < w (v.1 10 d).toNat → ¬ bt q (d + 3)) := fun d hd => by
    rw [hG, hwc]
    exact mono_run (td d hd).1 (td d hd).2
  have nn1 : ∀ l, l < nn v 1 → 0 ≤ v.1 5 l * ((w (v.1 3 l).toNat - w (v.1 4 l).toNat) * (w (v.1 3 l).toNat - w (v.1 4 l).toNat)) := fun l hl => by
    have h := hv.2.2.2.2.2.2.1 l hl
    exact Int.mul_nonneg (by omega) (sq_nn _)
  have nn2 : ∀ r, r < nn v 2 → 0 ≤ v.1 9 r * (w (v.1 6 r).toNat * F r) := fun r hr => by
    have h := hv.2.2.2.2.2.2.2.1 r hr
    exact Int.mul_nonneg (by omega) (fr r hr).1
  have nn3 : ∀ d, d < nn v 3 → 0 ≤ v.1 12 d * (w (v.1 10 d).toNat * G d) := fun d hd => by
    have h := hv.2.2.2.2.2.2.2.2.1 d hd
    exact Int.mul_nonneg (by omega) (fd d hd).1
  have p1 := sumn_nn nn1
  have p2 := sumn_nn nn2
  have p3 := sumn_nn nn3
  have z1 := sumn_nn0 nn1 (by omega)
  have z2 := sumn_nn0 nn2 (by omega)
  have z3 := sumn_nn0 nn3 (by omega)
  have lk : ∀ l, l < nn v 1 → w (v.1 3 l).toNat = w (v.1 4 l).toNat := fun l hl => by
    have h := hv.2.2.2.2.2.2.1 l hl
    rcases Int.mul_eq_zero.mp (z1 l hl) with a | a
    · omega
    · rcases Int.mul_eq_zero.mp a with b | b <;> omega
  have hr : ∀ r, r < nn v 2 → 0 < w (v.1 6 r).toNat → ¬ bt q r := fun r hr => by
    have h := hv.2.2.2.2.2.2.2.1 r hr
    rcases Int.mul_eq_zero.mp (z2 r hr) with a | a
    · omega
    · exact (fr r hr).2 a
  have hdr : ∀ d, d < nn v 3 → 0 < w (v.1 10 d).toNat → ¬ bt q (d + 3) := fun d hd => by
    have h := hv.2.2.2.2.2.2.2.2.1 d hd
    rcases Int.mul_eq_zero.mp (z3 d hd) with a | a
    · omega
    · exact (fd d hd).2 a
  have ker := dt_ker (nn v 0) (mat v q) (fun c => if 0 < w c then w c else 0) (fun i hi => by
    rw [mat_mul hv q hi (fun c => if 0 < w c then w c else 0)]
    rw [sumn_all0 (fun l hl => by
      show v.1 5 l * xl v l i * ((if 0 < w (v.1 3 l).toNat then w (v.1 3 l).toNat else 0) - (if 0 < w (v.1 4 l).toNat then w (v.1 4 l).toNat else 0)) = 0
      rw [lk l hl, Int.sub_self, Int.mul_zero]), Int.zero_add]
    by_cases h : 0 < w i
    · have a : tien v q (nn v 2) i = 0 := sumn_all0 (fun r hr2 => by
        by_cases b : bt q r
        · rw [if_pos b]
          unfold nb
          by_cases c : v.1 6 r = (i : Int)
          · exact absurd b (hr r hr2 (by rw [c]; exact h))
          · rw [if_neg c, Int.zero_mul]
        · rw [if_neg b])
      have a2 : rund v q (nn v 3) i = 0 := sumn_all0 (fun r hr2 => by
        by_cases b : bt q (r + 3)
        · rw [if_pos b]
          unfold nb
          by_cases c : v.1 10 r = (i : Int)
          · exact absurd b (hdr r hr2 (by rw [c]; exact h))
          · rw [if_neg c, Int.zero_mul]
        · rw [if_neg b])
      rw [a, a2, Int.add_zero, Int.zero_mul]
    · rw [if_neg h, Int.mul_zero]) hq.1
  intro c hc
  have k := ker c hc
  rw [hxc, hyc]
  have e := hwc c
  by_cases h : 0 < w c
  · rw [if_pos h] at k; omega
  · omega
theorem uniq_heads {v : LV} (hv : wfL v) {p q : Int} (hp : isR v p) (hq : isR v q) : (∀ r, r < nn v 2 → (bt p r ↔ bt q r)) ∧ (∀ d, d < nn v 3 → (bt p (d + 3) ↔ bt q (d + 3))) := by
  have dp : 0 < detv v p := by have := det_range hv p; have := hp.1; omega
  have dq : 0 < detv v q := by have := det_range hv q; have := hq.1; omega
  have a := uniq_half hv hp hq
  have b := uniq_half hv hq hp
  have n0 := nn_c hv 0 (by omega)
  have e : ∀ c, c < nn v 0 → upv v p c * detv v q = upv v q c * detv v p := fun c hc => by
    have := a c hc
    have := b c hc
    omega
  have eD : detv v q * detv v p = detv v p * detv v q := Int.mul_comm _ _
  constructor
  · intro r hr
    have h := hv.2.2.2.2.2.2.2.1 r hr
    rw [← hp.2.1 r hr, ← hq.2.1 r hr, scale_le (s := detv v q) dq, scale_le (D := detv v q) (s := detv v p) dp, eD, e _ (by omega)]
  · intro d hd
    have h := hv.2.2.2.2.2.2.2.2.1 d hd
    rw [← hp.2.2 d hd, ← hq.2.2 d hd, scale_lt (s := detv v q) dq, scale_lt (D := detv v q) (s := detv v p) dp, eD, e _ (by omega)]
