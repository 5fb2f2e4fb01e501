/-! counting: both sides alike -/
theorem cseen_eq {v : LV} {μ : GM} (h : InvV v μ) : Rt (f_X10_seenCells μ) (fun r μ1 => r = sumn (nn v 0) (fun c => μ.1 84 c) ∧ μ1 = μ) := by
  have hv := h.1.2.2.1
  have l0 := hv.1
  have n0 := nn_c hv 0 (by omega)
  have si := h.2.2.2.2.2.1
  have sb : ∀ z : Nat, 0 ≤ sumn z (fun c => μ.1 84 c) ∧ sumn z (fun c => μ.1 84 c) ≤ z * 1 := fun z => sumn_pb (by omega) (fun i _ => by have := (si.2 i).2; omega)
  unfold f_X10_seenCells
  refine Rt_loop (fun f z (q : Int × GM) => k_X10_seenCells_4 f q.1 z q.2) _ (nn v 0) (fun z q => q.2 = μ ∧ q.1 = sumn z (fun c => μ.1 84 c)) ?_ ?_ FU 0 (0, μ) (by omega) (FU_gt (by omega)) ⟨rfl, rfl⟩
  · intro f z q hz ⟨e1, e2⟩ hnext
    obtain ⟨q1, q2⟩ := q
    have e1' : q2 = μ := e1
    have e2' : q1 = sumn z (fun c => μ.1 84 c) := e2
    subst e1'; subst e2'
    show Rt (k_X10_seenCells_4 (f + 1) _ (z : Int) q2) _
    rw [k_X10_seenCells_4, lcN0 h.1.1]
    have s1 := si.2 (z : Int)
    have b := sb z
    have e : sumn (z + 1) (fun c => q2.1 84 c) = sumn z (fun c => q2.1 84 c) + q2.1 84 z := rfl
    refine Rt_pos (by omega) ?_
    by_cases q : q2.1 35 (z : Int) < 0
    · have ei : f_X10_isSeen (z : Int) q2 = some (0, q2) := by unfold f_X10_isSeen; rw [ck_pos (by omega), if_pos q]; rfl
      refine Rt_bde ei (Rt_pos rfl (Rt_lt ?_))
      rw [w32s (by omega)]
      exact hnext (_, q2) ⟨rfl, by rw [e]; show _ = _ + q2.1 84 (z : Int); omega⟩
    · have ei : f_X10_isSeen (z : Int) q2 = some (1, q2) := by unfold f_X10_isSeen; rw [ck_pos (by omega), if_neg q]; rfl
      refine Rt_bde ei (Rt_neg (by decide) (Rt_lt (Rt_lt ?_)))
      rw [w32s (by omega), w32i (by omega) (by omega)]
      exact hnext (_, q2) ⟨rfl, by rw [e]; show _ + 1 = _ + q2.1 84 (z : Int); omega⟩
  · intro f q ⟨e1, e2⟩
    obtain ⟨q1, q2⟩ := q
    have e1' : q2 = μ := e1
    have e2' : q1 = sumn (nn v 0) (fun c => μ.1 84 c) := e2
    subst e1'
    show Rt (k_X10_seenCells_4 (f + 1) q1 (nn v 0 : Int) q2) _
    rw [k_X10_seenCells_4, lcN0 h.1.1]
    exact Rt_neg (by omega) (Rt_some ⟨e2', rfl⟩)
theorem srate_b {v : LV} (hv : wfL v) : ∀ z, z ≤ nn v 4 → 0 ≤ sumn z (fun w => v.1 16 w) ∧ sumn z (fun w => v.1 16 w) ≤ z * 99 := fun z hz => sumn_pb (by omega) (fun i hi => (hv.2.2.2.2.2.2.2.2.2 i (by omega)).2)
theorem crates_eq {v : LV} {μ : GM} (h : InvV v μ) : Rt (f_X9_allRates μ) (fun r μ1 => r = sumn (nn v 4) (fun w => v.1 16 w) ∧ μ1 = μ) := by
  have hv := h.1.2.2.1
  have l4 := hv.2.2.2.2.1
  have n4 := nn_c hv 4 (by omega)
  unfold f_X9_allRates
  refine Rt_loop (fun f z (q : Int × GM) => k_X9_allRates_4 f q.1 z q.2) _ (nn v 4) (fun z q => q.2 = μ ∧ q.1 = sumn z (fun w => v.1 16 w)) ?_ ?_ FU 0 (0, μ) (by omega) (FU_gt (by omega)) ⟨rfl, rfl⟩
  · intro f z q hz ⟨e1, e2⟩ hnext
    obtain ⟨q1, q2⟩ := q
    have e1' : q2 = μ := e1
    have e2' : q1 = sumn z (fun w => v.1 16 w) := e2
    subst e1'; subst e2'
    show Rt (k_X9_allRates_4 (f + 1) _ (z : Int) q2) _
    rw [k_X9_allRates_4, lcN4 h.1.1, lcA16 h.1.1]
    have b := srate_b hv (z + 1) (by omega)
    have e : sumn (z + 1) (fun w => v.1 16 w) = sumn z (fun w => v.1 16 w) + v.1 16 z := rfl
    refine Rt_pos (by omega) (Rt_ck (by omega) (Rt_lt (Rt_lt ?_)))
    rw [w32s (by omega), w32i (by omega) (by omega)]
    exact hnext (_, q2) ⟨rfl, rfl⟩
  · intro f q ⟨e1, e2⟩
    obtain ⟨q1, q2⟩ := q
    have e1' : q2 = μ := e1
    have e2' : q1 = sumn (nn v 4) (fun w => v.1 16 w) := e2
    subst e1'
    show Rt (k_X9_allRates_4 (f + 1) q1 (nn v 4 : Int) q2) _
    rw [k_X9_allRates_4, lcN4 h.1.1]
    exact Rt_neg (by omega) (Rt_some ⟨e2', rfl⟩)
theorem ok_count {v : LV} {μ : GM} (h : InvV v μ) (x : Int) : PrOK (f_X11_count x) (f_X12_count x) μ := by
  obtain ⟨h1, s1⟩ := inv_thr h
  have hv := h.1.2.2.1
  have l0 := hv.1
  have n0 := nn_c hv 0 (by omega)
  have l4 := hv.2.2.2.2.1
  have n4 := nn_c hv 4 (by omega)
  obtain ⟨val, hval⟩ : ∃ val : Int, val = if x = 0 then v.2 0 else if x = 1 then v.2 1 else if x = 2 then v.2 2 else if x = 3 then v.2 3 else if x = 4 then v.2 4 else if x = 5 then μ.2 31 2 else if x = 6 then μ.2 42 2 else if x = 7 then sumn (nn v 0) (fun c => μ.1 84 c) else if x = 8 then sumn (nn v 4) (fun w => v.1 16 w) else -10000002 := ⟨_, rfl⟩
  have cside : Rt (f_X11_count x μ) (fun r μ1 => r = val ∧ μ1 = μ) := by
    unfold f_X11_count
    rw [lcN0 h.1.1, lcN1 h.1.1, lcN2 h.1.1, lcN3 h.1.1, lcN4 h.1.1, hval]
    refine Rt_if (fun c => Rt_some ⟨by rw [if_pos c], rfl⟩) (fun c => ?_)
    rw [if_neg c]
    refine Rt_if (fun c => Rt_some ⟨by rw [if_pos c], rfl⟩) (fun c => ?_)
    rw [if_neg c]
    refine Rt_if (fun c => Rt_some ⟨by rw [if_pos c], rfl⟩) (fun c => ?_)
    rw [if_neg c]
    refine Rt_if (fun c => Rt_some ⟨by rw [if_pos c], rfl⟩) (fun c => ?_)
    rw [if_neg c]
    refine Rt_if (fun c => Rt_some ⟨by rw [if_pos c], rfl⟩) (fun c => ?_)
    rw [if_neg c]
    refine Rt_if (fun c => Rt_some ⟨by rw [if_pos c], rfl⟩) (fun c => ?_)
    rw [if_neg c]
    refine Rt_if (fun c => Rt_some ⟨by rw [if_pos c], rfl⟩) (fun c => ?_)
    rw [if_neg c]
    refine Rt_if (fun c => Rt_bd (cseen_eq h) (fun r μ1 k => Rt_some ⟨by rw [if_pos c]; exact k.1, k.2⟩)) (fun c => ?_)
    rw [if_neg c]
    refine Rt_if (fun c => Rt_bd (crates_eq h) (fun r μ1 k => Rt_some ⟨by rw [if_pos c]; exact k.1, k.2⟩)) (fun c => ?_)
    rw [if_neg c]
    exact Rt_some ⟨rfl, rfl⟩
  refine cside.mono (fun r μ1 ⟨er, em⟩ => ?_)
  subst em
  rw [er]
  have si := h.2.2.2.2.2.1
  have sb : ∀ z : Nat, 0 ≤ sumn z (fun c => μ1.1 84 c) ∧ sumn z (fun c => μ1.1 84 c) ≤ z * 1 := fun z => sumn_pb (by omega) (fun i _ => by have := (si.2 i).2; omega)
  unfold f_X12_count
  refine Rt_lm ?_
  obtain ⟨ν, hν⟩ : ∃ ν, ν = gF μ1 53 0 0 := ⟨_, rfl⟩
  rw [← hν] at h1 ⊢
  have e84 : ν.1 84 = μ1.1 84 := by rw [hν, gF_1]
  refine Rt_loop (fun f z (q : Int × GM) => k_X12_count_12 f x q.1 0 z q.2) _ (nn v 0) (fun z q => q.2 = ν ∧ q.1 = sumn z (fun c => μ1.1 84 c)) ?_ ?_ FU 0 (0, ν) (by omega) (FU_gt (by omega)) ⟨rfl, rfl⟩
  · intro f z q hz ⟨e1, e2⟩ hnext
    obtain ⟨q1, q2⟩ := q
    have e1' : q2 = ν := e1
    have e2' : q1 = sumn z (fun c => μ1.1 84 c) := e2
    subst e1'; subst e2'
    show Rt (k_X12_count_12 (f + 1) x _ 0 (z : Int) q2) _
    rw [k_X12_count_12, lmN0 h1.1.2.1, e84]
    have s1 := (si.2 (z : Int)).2
    have b := sb z
    have e : sumn (z + 1) (fun c => μ1.1 84 c) = sumn z (fun c => μ1.1 84 c) + μ1.1 84 z := rfl
    refine Rt_pos (by omega) (Rt_ck (by omega) (Rt_if (fun c => Rt_lt (Rt_lt ?_)) (fun c => Rt_lt (Rt_lt ?_))))
    · rw [w32s (by omega), w32i (by omega) (by omega)]
      exact hnext (_, q2) ⟨rfl, by rw [e]; show _ + 0 = _ + μ1.1 84 (z : Int); omega⟩
    · rw [w32s (by omega), w32i (by omega) (by omega)]
      exact hnext (_, q2) ⟨rfl, by rw [e]; show _ + 1 = _ + μ1.1 84 (z : Int); omega⟩
  intro f q ⟨e1, e2⟩
  obtain ⟨q1, q2⟩ := q
  have e1' : q2 = ν := e1
  have e2' : q1 = sumn (nn v 0) (fun c => μ1.1 84 c) := e2
  subst e1'; subst e2'
  show Rt (k_X12_count_12 (f + 1) x _ 0 (nn v 0 : Int) q2) _
  rw [k_X12_count_12, lmN0 h1.1.2.1]
  refine Rt_neg (by omega) ?_
  refine Rt_loop (fun f z (q : Int × GM) => k_X12_count_48 f x (sumn (nn v 0) (fun c => μ1.1 84 c)) q.1 z q.2) _ (nn v 4) (fun z q => q.2 = q2 ∧ q.1 = sumn z (fun w => v.1 16 w)) ?_ ?_ FU 0 (0, q2) (by omega) (FU_gt (by omega)) ⟨rfl, rfl⟩
  · intro f z q hz ⟨e1, e2⟩ hnext
    obtain ⟨q3, q4⟩ := q
    have e1' : q4 = q2 := e1
    have e2' : q3 = sumn z (fun w => v.1 16 w) := e2
    subst e1'; subst e2'
    show Rt (k_X12_count_48 (f + 1) x _ _ (z : Int) q4) _
    rw [k_X12_count_48, lmN4 h1.1.2.1, lmA16 h1.1.2.1]
    have b := srate_b hv (z + 1) (by omega)
    have e : sumn (z + 1) (fun w => v.1 16 w) = sumn z (fun w => v.1 16 w) + v.1 16 z := rfl
    refine Rt_pos (by omega) (Rt_ck (by omega) (Rt_lt (Rt_lt ?_)))
    rw [w32s (by omega), w32i (by omega) (by omega)]
    exact hnext (_, q4) ⟨rfl, rfl⟩
  · intro f q ⟨e1, e2⟩
    obtain ⟨q3, q4⟩ := q
    have e1' : q4 = q2 := e1
    have e2' : q3 = sumn (nn v 4) (fun w => v.1 16 w) := e2
    subst e1'; subst e2'
    show Rt (k_X12_count_48 (f + 1) x _ _ (nn v 4 : Int) q4) _
    rw [k_X12_count_48, lmN0 h1.1.2.1, lmN1 h1.1.2.1, lmN2 h1.1.2.1, lmN3 h1.1.2.1, lmN4 h1.1.2.1, hval]
    have e37 : q4.2 53 37 = μ1.2 31 2 := by rw [hν, gF_ne _ _ (by omega)]; exact h.2.2.2.2.1.1.symm
    have e44 : q4.2 53 44 = μ1.2 42 2 := by rw [hν, gF_ne _ _ (by omega)]; exact h.2.2.2.2.2.2.1.1.symm
    rw [e37, e44]
    refine Rt_neg (by omega) ?_
    refine Rt_if (fun c => Rt_some ⟨by rw [if_pos c], v, h1⟩) (fun c => ?_)
    rw [if_neg c]
    refine Rt_if (fun c => Rt_some ⟨by rw [if_pos c], v, h1⟩) (fun c => ?_)
    rw [if_neg c]
    refine Rt_if (fun c => Rt_some ⟨by rw [if_pos c], v, h1⟩) (fun c => ?_)
    rw [if_neg c]
    refine Rt_if (fun c => Rt_some ⟨by rw [if_pos c], v, h1⟩) (fun c => ?_)
    rw [if_neg c]
    refine Rt_if (fun c => Rt_some ⟨by rw [if_pos c], v, h1⟩) (fun c => ?_)
    rw [if_neg c]
    refine Rt_if (fun c => Rt_some ⟨by rw [if_pos c], v, h1⟩) (fun c => ?_)
    rw [if_neg c]
    refine Rt_if (fun c => Rt_some ⟨by rw [if_pos c], v, h1⟩) (fun c => ?_)
    rw [if_neg c]
    refine Rt_if (fun c => Rt_some ⟨by rw [if_pos c], v, h1⟩) (fun c => ?_)
    rw [if_neg c]
    refine Rt_if (fun c => Rt_some ⟨by rw [if_pos c], v, h1⟩) (fun c => ?_)
    rw [if_neg c]
    exact Rt_some ⟨rfl, v, h1⟩
