/-! what comes to all cells -/
def mx0 (x : Int) : Int := if 0 < x then x else 0
theorem mx0_b {x b : Int} (h : x ≤ b) (hb : 0 ≤ b) : 0 ≤ mx0 x ∧ mx0 x ≤ b := by unfold mx0; split <;> omega
theorem sumn_pb {f : Nat → Int} {b : Int} (hb : 0 ≤ b) : ∀ {n : Nat}, (∀ i, i < n → 0 ≤ f i ∧ f i ≤ b) → 0 ≤ sumn n f ∧ sumn n f ≤ n * b
  | 0, _ => ⟨Int.le_refl 0, by show (0 : Int) ≤ ((0 : Nat) : Int) * b; rw [Int.natCast_zero, Int.zero_mul]; omega⟩
  | n + 1, h => by
    have ih := sumn_pb hb (n := n) (fun i hi => h i (by omega))
    have a := h n (by omega)
    show 0 ≤ sumn n f + f n ∧ sumn n f + f n ≤ _
    rw [Int.natCast_add, Int.add_mul]
    omega
theorem sgiv_b {v : LV} (hv : wfL v) {p : Int} (hr : isR v p) {z : Nat} (hz : z ≤ nn v 2) : 0 ≤ sumn z (fun r => mx0 (giv v p r)) ∧ sumn z (fun r => mx0 (giv v p r)) ≤ 1500000000000000 := by
  have l2 := hv.2.2.1
  have n2 := nn_c hv 2 (by omega)
  have a := sumn_pb (f := fun r => mx0 (giv v p r)) (b := 500000000000000) (by omega) (n := z) (fun i hi => mx0_b (giv_b hv hr (by omega)).2 (by omega))
  have b : (z : Int) ≤ 3 := by omega
  have c := Int.mul_le_mul_of_nonneg_right b (show (0 : Int) ≤ 500000000000000 by omega)
  omega
theorem srain_b {v : LV} (hv : wfL v) {p : Int} (hr : isR v p) {z : Nat} (hz : z ≤ nn v 0) : 0 ≤ sumn z (fun c => v.1 1 c * detv v p) ∧ sumn z (fun c => v.1 1 c * detv v p) ≤ 4027320000000 := by
  have l0 := hv.1
  have n0 := nn_c hv 0 (by omega)
  have d := det_pos hv hr
  have a := sumn_pb (f := fun c => v.1 1 c * detv v p) (b := 671220000000) (by omega) (n := z) (fun i hi => by
    have h := hv.2.2.2.2.2.1 i (by omega)
    have m := mul_mono (a := v.1 1 i) (b := 99) (c := detv v p) (d := 6780000000) (by omega) (by omega) (by omega) (by omega)
    have m0 := Int.mul_nonneg (show 0 ≤ v.1 1 i by omega) (show 0 ≤ detv v p by omega)
    omega)
  have b : (z : Int) ≤ 6 := by omega
  have c := Int.mul_le_mul_of_nonneg_right b (show (0 : Int) ≤ 671220000000 by omega)
  omega
def thr (v : LV) (p : Int) : Int := sumn (nn v 2) (fun r => mx0 (giv v p r)) + sumn (nn v 0) (fun c => v.1 1 c * detv v p)
theorem cthr_eq {v : LV} {μ : GM} {p : Int} (hv : wfL v) (hc : cV 22 μ = v) (ra : restAt v 94 μ p) : Rt (f_X6_throughTop 94 μ) (fun r μ1 => r = thr v p ∧ μ1 = μ) := by
  have n0 := nn_c hv 0 (by omega)
  have n2 := nn_c hv 2 (by omega)
  have l0 := hv.1
  have l2 := hv.2.2.1
  have hr := ra.2.2.1
  have d := det_pos hv hr
  unfold f_X6_throughTop
  refine Rt_loop (fun f z (q : Int × GM) => k_X6_throughTop_4 94 f q.1 z q.2) _ (nn v 2) (fun z q => q.2 = μ ∧ q.1 = sumn z (fun r => mx0 (giv v p r))) ?_ ?_ FU 0 (0, μ) (by omega) (FU_gt (by omega)) ⟨rfl, rfl⟩
  · intro f z q hz ⟨h1, h2⟩ hnext
    obtain ⟨q1, q2⟩ := q
    have h1' : q2 = μ := h1
    have h2' : q1 = sumn z (fun r => mx0 (giv v p r)) := h2
    subst h1'
    subst h2'
    show Rt (k_X6_throughTop_4 94 (f + 1) (sumn z (fun r => mx0 (giv v p r))) (z : Int) q2) _
    rw [k_X6_throughTop_4, lcN2 hc]
    have mxe : f_J9_max_f86c9 0 (giv v p z) q2 = some (mx0 (giv v p z), q2) := by
      unfold f_J9_max_f86c9 mx0; split <;> rfl
    refine Rt_pos (by omega) (Rt_bde (criver_eq hv hc ra hz) (Rt_bde mxe (Rt_lt (Rt_lt ?_))))
    have b1 := sgiv_b hv hr (z := z) (by omega)
    have b2 := sgiv_b hv hr (z := z + 1) (by omega)
    have e : sumn (z + 1) (fun r => mx0 (giv v p r)) = sumn z (fun r => mx0 (giv v p r)) + mx0 (giv v p z) := rfl
    rw [w32s (by omega), w64i (by omega) (by omega)]
    exact hnext (_, q2) ⟨rfl, rfl⟩
  intro f q ⟨h1, h2⟩
  obtain ⟨q1, q2⟩ := q
  have h1' : q2 = μ := h1
  have h2' : q1 = sumn (nn v 2) (fun r => mx0 (giv v p r)) := h2
  subst h1'
  subst h2'
  show Rt (k_X6_throughTop_4 94 (f + 1) (sumn (nn v 2) (fun r => mx0 (giv v p r))) (nn v 2 : Int) q2) _
  rw [k_X6_throughTop_4, lcN2 hc]
  refine Rt_neg (by omega) ?_
  have b1 := sgiv_b hv hr (z := nn v 2) (Nat.le_refl _)
  refine Rt_loop (fun f z (q : Int × GM) => k_X6_throughTop_38 94 f q.1 z q.2) _ (nn v 0) (fun z q => q.2 = q2 ∧ q.1 = sumn (nn v 2) (fun r => mx0 (giv v p r)) + sumn z (fun c => v.1 1 c * detv v p)) ?_ ?_ FU 0 (_, q2) (by omega) (FU_gt (by omega)) ⟨rfl, (Int.add_zero _).symm⟩
  · intro f z q hz ⟨h1, h2⟩ hnext
    obtain ⟨q3, q4⟩ := q
    have h1' : q4 = q2 := h1
    have h2' : q3 = sumn (nn v 2) (fun r => mx0 (giv v p r)) + sumn z (fun c => v.1 1 c * detv v p) := h2
    subst h1'
    subst h2'
    show Rt (k_X6_throughTop_38 94 (f + 1) _ (z : Int) q4) _
    rw [k_X6_throughTop_38, lcN0 hc, lcA1 hc, ra.2.2.2.1]
    have b2 := srain_b hv hr (z := z) (by omega)
    have b3 := srain_b hv hr (z := z + 1) (by omega)
    have e : sumn (z + 1) (fun c => v.1 1 c * detv v p) = sumn z (fun c => v.1 1 c * detv v p) + v.1 1 z * detv v p := rfl
    refine Rt_pos (by omega) (Rt_ck (by omega) (Rt_lt (Rt_lt ?_)))
    rw [w32s (by omega), w64i (x := v.1 1 z * detv v p) (by omega) (by omega), w64i (by omega) (by omega)]
    exact hnext (_, q4) ⟨rfl, by rw [e]; exact Int.add_assoc _ _ _⟩
  · intro f q ⟨h1, h2⟩
    obtain ⟨q3, q4⟩ := q
    have h1' : q4 = q2 := h1
    have h2' : q3 = sumn (nn v 2) (fun r => mx0 (giv v p r)) + sumn (nn v 0) (fun c => v.1 1 c * detv v p) := h2
    subst h1'
    show Rt (k_X6_throughTop_38 94 (f + 1) q3 (nn v 0 : Int) q4) _
    rw [k_X6_throughTop_38, lcN0 hc]
    exact Rt_neg (by omega) (Rt_some ⟨h2', rfl⟩)
theorem ok_through {v : LV} {μ : GM} (h : InvV v μ) (u : Int) : PrOK (f_X11_through u) (f_X12_through u) μ := by
  obtain ⟨tot, tn, ty⟩ := rest_val h.1.2.2.1 (-10000003) (fun p => tld (thr v p) (detv v p) u)
  have hv := h.1.2.2.1
  have n0 := nn_c hv 0 (by omega)
  have n2 := nn_c hv 2 (by omega)
  have l0 := hv.1
  have l2 := hv.2.2.1
  refine q_ok h tot (fun μ h => ?_) (fun μ h => ?_)
  · unfold f_X11_through
    refine cRest h _ tn ty (fun p h0 hp hr μ4 h4 ra => Rt_bd (cthr_eq hv h4.1.1 ra) (fun r μ5 ⟨e1, e2⟩ => ?_))
    subst e1
    subst e2
    have b1 := sgiv_b hv hr (z := nn v 2) (Nat.le_refl _)
    have b2 := srain_b hv hr (z := nn v 0) (Nat.le_refl _)
    have d := det_pos hv hr
    rw [ra.2.2.2.1]
    exact Rt_bde (least_eq u (by unfold thr; omega) (by unfold thr; omega) d.1 (by omega) μ5) (Rt_some ⟨rfl, ScOK.refl h4⟩)
  · unfold f_X12_through
    obtain ⟨h1, s1⟩ := inv_thr h
    refine Rt_lm (Rt.mono (P := VQ v (gF μ 53 0 0) tot) ?_ (fun r μ2 k => ⟨k.1, s1.trans k.2⟩))
    refine mRest h1 _ tn ty (fun p h0 hp hr μ4 h4 ra hm => ?_)
    have d := det_pos hv hr
    have b1 := srain_b hv hr (z := nn v 0) (Nat.le_refl _)
    refine Rt_loop (fun f z (q : Int × GM) => k_X12_through_21 f u q.1 z q.2) _ (nn v 0) (fun z q => q.2 = μ4 ∧ q.1 = sumn z (fun c => v.1 1 c * detv v p)) ?_ ?_ FU 0 (0, μ4) (by omega) (FU_gt (by omega)) ⟨rfl, rfl⟩
    · intro f z q hz ⟨h1, h2⟩ hnext
      obtain ⟨q3, q4⟩ := q
      have h1' : q4 = μ4 := h1
      have h2' : q3 = sumn z (fun c => v.1 1 c * detv v p) := h2
      subst h1'
      subst h2'
      show Rt (k_X12_through_21 (f + 1) u _ (z : Int) q4) _
      rw [k_X12_through_21, lmN0 h4.1.2.1, lmA1 h4.1.2.1, ra.2.2.2.1]
      have b2 := srain_b hv hr (z := z) (by omega)
      have b3 := srain_b hv hr (z := z + 1) (by omega)
      have e : sumn (z + 1) (fun c => v.1 1 c * detv v p) = sumn z (fun c => v.1 1 c * detv v p) + v.1 1 z * detv v p := rfl
      refine Rt_pos (by omega) (Rt_ck (by omega) (Rt_lt (Rt_lt ?_)))
      rw [w32s (by omega), w64i (x := v.1 1 z * detv v p) (by omega) (by omega), w64i (by omega) (by omega)]
      exact hnext (_, q4) ⟨rfl, rfl⟩
    intro f q ⟨h1, h2⟩
    obtain ⟨q3, q4⟩ := q
    have h1' : q4 = μ4 := h1
    have h2' : q3 = sumn (nn v 0) (fun c => v.1 1 c * detv v p) := h2
    subst h1'
    subst h2'
    show Rt (k_X12_through_21 (f + 1) u _ (nn v 0 : Int) q4) _
    rw [k_X12_through_21, lmN0 h4.1.2.1]
    refine Rt_neg (by omega) ?_
    refine Rt_loop (fun f z (q : Int × GM) => k_X12_through_55 f u q.1 z q.2) _ (nn v 2) (fun z q => q.2 = q4 ∧ q.1 = sumn (nn v 0) (fun c => v.1 1 c * detv v p) + sumn z (fun r => mx0 (giv v p r))) ?_ ?_ FU 0 (_, q4) (by omega) (FU_gt (by omega)) ⟨rfl, (Int.add_zero _).symm⟩
    · intro f z q hz ⟨h1, h2⟩ hnext
      obtain ⟨q5, q6⟩ := q
      have h1' : q6 = q4 := h1
      have h2' : q5 = sumn (nn v 0) (fun c => v.1 1 c * detv v p) + sumn z (fun r => mx0 (giv v p r)) := h2
      subst h1'
      subst h2'
      show Rt (k_X12_through_55 (f + 1) u _ (z : Int) q6) _
      rw [k_X12_through_55, lmN2 h4.1.2.1]
      have b2 := sgiv_b hv hr (z := z) (by omega)
      have b3 := sgiv_b hv hr (z := z + 1) (by omega)
      have e : sumn (z + 1) (fun r => mx0 (giv v p r)) = sumn z (fun r => mx0 (giv v p r)) + mx0 (giv v p z) := rfl
      have em := mriver_eq hv hm ra hz
      refine Rt_pos (by omega) (Rt_bde em (Rt_if (fun q0 => Rt_bde em (Rt_lt (Rt_lt ?_))) (fun q0 => Rt_lt (Rt_lt ?_))))
      · have e2 : mx0 (giv v p z) = giv v p z := by unfold mx0; rw [if_pos q0]
        rw [w32s (by omega), w64i (by omega) (by omega)]
        exact hnext (_, q6) ⟨rfl, by rw [e, e2]; exact Int.add_assoc _ _ _⟩
      · have e2 : mx0 (giv v p z) = 0 := by unfold mx0; rw [if_neg q0]
        rw [w32s (by omega), w64i (by omega) (by omega)]
        exact hnext (_, q6) ⟨rfl, by rw [e, e2]; exact Int.add_assoc _ _ _⟩
    · intro f q ⟨h1, h2⟩
      obtain ⟨q5, q6⟩ := q
      have h1' : q6 = q4 := h1
      have h2' : q5 = sumn (nn v 0) (fun c => v.1 1 c * detv v p) + sumn (nn v 2) (fun r => mx0 (giv v p r)) := h2
      subst h1'
      subst h2'
      show Rt (k_X12_through_55 (f + 1) u _ (nn v 2 : Int) q6) _
      rw [k_X12_through_55, lmN2 h4.1.2.1, ra.2.2.2.1]
      have b2 := sgiv_b hv hr (z := nn v 2) (Nat.le_refl _)
      have e : sumn (nn v 0) (fun c => v.1 1 c * detv v p) + sumn (nn v 2) (fun r => mx0 (giv v p r)) = thr v p := Int.add_comm _ _
      rw [e]
      exact Rt_neg (by omega) (Rt_bde (told_eq u (by unfold thr; omega) (by unfold thr; omega) d.1 (by omega) q6) (Rt_some ⟨rfl, ScOK.refl h4⟩))
