/-! calls that change the land -/
theorem exch_eq {a : Nat} {N : Nat} (hN : gLen a = N) {z x : Int} {μ : GM} (hz : 0 ≤ z ∧ z < N) : f_X11_exchange a z x μ = some (μ.1 a z, gA μ a z x) := by
  unfold f_X11_exchange lt lm
  rw [hN, ck_pos hz]
  dsimp only
  rw [ck_pos hz]
theorem ref_m {v : LV} {μ : GM} (h : InvV v μ) {e : Int} : Rt (some (e, gF μ 53 0 0)) (fun r' μ2 => r' = e ∧ ∃ v, InvV v μ2) := Rt_some ⟨rfl, v, (inv_thr h).1⟩
theorem noEase_y {z : Int} {μ : GM} (h : 1 ≤ z ∧ z ≤ 9) : f_X12_noEase z μ = some (0, μ) := by unfold f_X12_noEase; rw [in_y h]; rfl
theorem noEase_n {z : Int} {μ : GM} (h : ¬ (1 ≤ z ∧ z ≤ 9)) : f_X12_noEase z μ = some (1, μ) := by unfold f_X12_noEase; rw [in_n h]; rfl
theorem cache_o {v : LV} {μ ν : GM} {P : Nat → Prop} {F : Nat → Nat → Prop} (h : cacheOK v 94 μ) (o : ofr P F μ ν) (hP : ∀ k, 95 ≤ k → ¬ P k) : cacheOK v 94 ν := cache_keep h (o.1 _ (hP _ (by omega))) (o.1 _ (hP _ (by omega))) (fun z _ => o.1 _ (hP _ (by omega)))
theorem none_o {ν : GM} (hz : ∀ z : Nat, z < 32 → ν.1 95 z = -10000009) {w : LV} : cacheOK w 94 ν := cache_none (fun z h => hz z h)
theorem ok_rain {v : LV} {μ : GM} (h : InvV v μ) (z x : Int) : PrOK (f_X11_rain z x) (f_X12_rain z x) μ := by
  have hv := h.1.2.2.1
  have l0 := hv.1
  obtain ⟨h1, s1⟩ := inv_thr h
  unfold PrOK f_X11_rain
  by_cases q : 0 ≤ z ∧ z < v.2 0
  · refine Rt_bde (hasCell_y (lcN0 h.1.1) q) (Rt_neg (by decide) ?_)
    by_cases qx : 0 ≤ x ∧ x ≤ 99
    · refine Rt_bde (out_y qx) (Rt_pos rfl (Rt_bde (exch_eq (N := 6) (by decide +kernel) (by omega)) (Rt_some ?_)))
      unfold f_X12_rain
      have em : mV 59 70 (gF (gA μ 3 z x) 53 0 0) = v := by rw [mVo0, mVo _ _ _ (by omega)]; exact h.1.2.1
      refine Rt_lm (Rt_bde (noCell_y (lmN0 em) (lim0 hv) q) (Rt_pos rfl (Rt_bde (in_y qx) (Rt_neg (by decide) (Rt_ck (by omega) (Rt_lt (Rt_ck (by omega) (Rt_lm (Rt_some ⟨?_, setA v 1 z x, ?_⟩)))))))))
      · rw [lmA1 em, ← lcA1 h.1.1]
      · have o : ofr (fun k => k = 3 ∨ k = 55) (fun k j => k = 53 ∧ j = 0) μ (gA (gF (gA μ 3 z x) 53 0 0) 55 z x) := ((ofr.rfl.a (Or.inl rfl)).f ⟨rfl, rfl⟩).a (Or.inr rfl)
        refine mkInv h (o.mono (fun k hk => by unfold PLd; omega) (fun k j hk => by unfold FLd; omega)) ?_ ?_ (wf_rain hv h.1.2.2.2 qx).1 (wf_rain hv h.1.2.2.2 qx).2 ?_ (Int.le_refl _) (Int.le_refl _) (Int.le_refl _)
        · rw [cVo _ _ _ (by omega), cVof _ _ (by omega), cVs1, h.1.1]
        · rw [mVs1, em]
        · exact cache_mat (v := v) (fun p => rfl) rfl (cache_o h.2.1.2.1 o (fun k hk => by omega))
    · refine Rt_bde (out_n qx) (Rt_neg (by decide) (Rt_some ?_))
      unfold f_X12_rain
      exact Rt_lm (Rt_bde (noCell_y (lmN0 h1.1.2.1) (lim0 hv) q) (Rt_pos rfl (Rt_bde (in_n qx) (Rt_pos rfl (ref_m h)))))
  · refine Rt_bde (hasCell_n (lcN0 h.1.1) q) (Rt_pos rfl (Rt_some ?_))
    unfold f_X12_rain
    exact Rt_lm (Rt_bde (noCell_n (lmN0 h1.1.2.1) (lim0 hv) q) (Rt_neg (by decide) (ref_m h)))
theorem ok_rate {v : LV} {μ : GM} (h : InvV v μ) (z x : Int) : PrOK (f_X11_rate z x) (f_X12_rate z x) μ := by
  have hv := h.1.2.2.1
  have l4 := hv.2.2.2.2.1
  obtain ⟨h1, s1⟩ := inv_thr h
  unfold PrOK f_X11_rate
  by_cases q : 0 ≤ z ∧ z < v.2 4
  · refine Rt_bde (hasWell_y (lcN4 h.1.1) q) (Rt_neg (by decide) (Rt_ck (by omega) ?_))
    rw [lcA14 h.1.1]
    by_cases qx : 0 ≤ x ∧ x ≤ v.1 14 z
    · refine Rt_bde (out_y qx) (Rt_pos rfl (Rt_bde (exch_eq (N := 3) (by decide +kernel) (by omega)) (Rt_some ?_)))
      unfold f_X12_rate
      have em : mV 59 70 (gF (gA μ 22 z x) 53 0 0) = v := by rw [mVo0, mVo _ _ _ (by omega)]; exact h.1.2.1
      refine Rt_lm (Rt_bde (noWell_y (lmN4 em) (by omega) q) (Rt_pos rfl (Rt_ck (by omega) ?_)))
      rw [lmA14 em]
      refine Rt_bde (in_y qx) (Rt_neg (by decide) (Rt_ck (by omega) (Rt_lt (Rt_ck (by omega) (Rt_lm (Rt_some ⟨?_, setA v 16 z x, ?_⟩))))))
      · rw [lmA16 em, ← lcA16 h.1.1]
      · have o : ofr (fun k => k = 22 ∨ k = 70) (fun k j => k = 53 ∧ j = 0) μ (gA (gF (gA μ 22 z x) 53 0 0) 70 z x) := ((ofr.rfl.a (Or.inl rfl)).f ⟨rfl, rfl⟩).a (Or.inr rfl)
        refine mkInv h (o.mono (fun k hk => by unfold PLd; omega) (fun k j hk => by unfold FLd; omega)) ?_ ?_ (wf_rate hv h.1.2.2.2 q qx).1 (wf_rate hv h.1.2.2.2 q qx).2 ?_ (Int.le_refl _) (Int.le_refl _) (Int.le_refl _)
        · rw [cVo _ _ _ (by omega), cVof _ _ (by omega), cVs16, h.1.1]
        · rw [mVs16, em]
        · exact cache_mat (v := v) (fun p => rfl) rfl (cache_o h.2.1.2.1 o (fun k hk => by omega))
    · refine Rt_bde (out_n qx) (Rt_neg (by decide) (Rt_some ?_))
      unfold f_X12_rate
      refine Rt_lm (Rt_bde (noWell_y (lmN4 h1.1.2.1) (by omega) q) (Rt_pos rfl (Rt_ck (by omega) ?_)))
      rw [lmA14 h1.1.2.1]
      exact Rt_bde (in_n qx) (Rt_pos rfl (ref_m h))
  · refine Rt_bde (hasWell_n (lcN4 h.1.1) q) (Rt_pos rfl (Rt_some ?_))
    unfold f_X12_rate
    exact Rt_lm (Rt_bde (noWell_n (lmN4 h1.1.2.1) (by omega) q) (Rt_neg (by decide) (ref_m h)))
theorem ok_stage {v : LV} {μ : GM} (h : InvV v μ) (z x : Int) : PrOK (f_X11_stage z x) (f_X12_stage z x) μ := by
  have hv := h.1.2.2.1
  have l2 := hv.2.2.1
  obtain ⟨h1, s1⟩ := inv_thr h
  unfold PrOK f_X11_stage
  by_cases q : 0 ≤ z ∧ z < v.2 2
  · refine Rt_bde (hasRiver_y (lcN2 h.1.1) q) (Rt_neg (by decide) (Rt_ck (by omega) ?_))
    rw [lcA8 h.1.1]
    by_cases qx : v.1 8 z ≤ x ∧ x ≤ 1000
    · refine Rt_bde (out_y qx) (Rt_pos rfl (Rt_bde (exch_eq (N := 3) (by decide +kernel) (by omega)) (Rt_some ?_)))
      unfold f_X12_stage
      have em : mV 59 70 (gF (gA μ 11 z x) 53 0 0) = v := by rw [mVo0, mVo _ _ _ (by omega)]; exact h.1.2.1
      refine Rt_lm ?_
      rw [lmN2 em, w32i (by omega) (by omega)]
      refine Rt_bde (in_y (by omega)) (Rt_neg (by decide) (Rt_ck (by omega) ?_))
      rw [lmA8 em]
      refine Rt_bde (in_y qx) (Rt_neg (by decide) (Rt_ck (by omega) (Rt_lt (Rt_ck (by omega) (Rt_lm (Rt_some ⟨?_, setA v 7 z x, ?_⟩))))))
      · rw [lmA7 em, ← lcA7 h.1.1]
      · have o : ofr (fun k => k = 11 ∨ k = 61) (fun k j => k = 53 ∧ j = 0) μ (gA (gF (gA μ 11 z x) 53 0 0) 61 z x) := ((ofr.rfl.a (Or.inl rfl)).f ⟨rfl, rfl⟩).a (Or.inr rfl)
        refine mkInv h (o.mono (fun k hk => by unfold PLd; omega) (fun k j hk => by unfold FLd; omega)) ?_ ?_ (wf_stage hv h.1.2.2.2 qx).1 (wf_stage hv h.1.2.2.2 qx).2 ?_ (Int.le_refl _) (Int.le_refl _) (Int.le_refl _)
        · rw [cVo _ _ _ (by omega), cVof _ _ (by omega), cVs7, h.1.1]
        · rw [mVs7, em]
        · exact cache_mat (v := v) (fun p => rfl) rfl (cache_o h.2.1.2.1 o (fun k hk => by omega))
    · refine Rt_bde (out_n qx) (Rt_neg (by decide) (Rt_some ?_))
      unfold f_X12_stage
      refine Rt_lm ?_
      rw [lmN2 h1.1.2.1, w32i (by omega) (by omega)]
      refine Rt_bde (in_y (by omega)) (Rt_neg (by decide) (Rt_ck (by omega) ?_))
      rw [lmA8 h1.1.2.1]
      exact Rt_bde (in_n qx) (Rt_pos rfl (ref_m h))
  · refine Rt_bde (hasRiver_n (lcN2 h.1.1) q) (Rt_pos rfl (Rt_some ?_))
    unfold f_X12_stage
    refine Rt_lm ?_
    rw [lmN2 h1.1.2.1, w32i (by omega) (by omega)]
    exact Rt_bde (in_n (by omega)) (Rt_pos rfl (ref_m h))
theorem ok_ease {v : LV} {μ : GM} (h : InvV v μ) (z x : Int) : PrOK (f_X11_ease z x) (f_X12_ease z x) μ := by
  have hv := h.1.2.2.1
  have l1 := hv.2.1
  obtain ⟨h1, s1⟩ := inv_thr h
  unfold PrOK f_X11_ease
  by_cases q : 0 ≤ z ∧ z < v.2 1
  · refine Rt_bde (hasLink_y (lcN1 h.1.1) q) (Rt_neg (by decide) ?_)
    by_cases qx : 1 ≤ x ∧ x ≤ 9
    · refine Rt_bde (out_y qx) (Rt_pos rfl (Rt_bd (forget_spec μ) (fun _ μ1 ⟨k1, k2⟩ => Rt_bde (exch_eq (N := 12) (by decide +kernel) (by omega)) (Rt_some ?_))))
      unfold f_X12_ease
      have e1 : cV 22 μ1 = v := (cV_keep k1 (fun k hk => by omega) (fun _ _ _ z => z) (by omega)).trans h.1.1
      have e2 : mV 59 70 μ1 = v := (mV_keep k1 (fun k hk hk2 => by omega) (fun _ _ _ z => z) (by omega) (by omega)).trans h.1.2.1
      have em : mV 59 70 (gF (gA μ1 8 z x) 53 0 0) = v := by rw [mVo0, mVo _ _ _ (by omega)]; exact e2
      refine Rt_lm ?_
      rw [lmN1 em, w32i (by omega) (by omega)]
      refine Rt_bde (in_y (by omega)) (Rt_neg (by decide) (Rt_bde (noEase_y qx) (Rt_pos rfl (Rt_ck (by omega) (Rt_lt (Rt_ck (by omega) (Rt_lm (Rt_some ⟨?_, setA v 5 z x, ?_⟩))))))))
      · rw [lmA5 em, ← lcA5 e1]
      · have o0 : ofr (fun k => k = 95 ∨ k = 8 ∨ k = 59) (fun k j => k = 53 ∧ j = 0) μ μ1 := k1.mono (fun k hk => Or.inl hk) (fun _ _ z => z.elim)
        have o : ofr (fun k => k = 95 ∨ k = 8 ∨ k = 59) (fun k j => k = 53 ∧ j = 0) μ (gA (gF (gA μ1 8 z x) 53 0 0) 59 z x) := ((o0.a (Or.inr (Or.inl rfl))).f ⟨rfl, rfl⟩).a (Or.inr (Or.inr rfl))
        refine mkInv h (o.mono (fun k hk => by unfold PLd; omega) (fun k j hk => by unfold FLd; omega)) ?_ ?_ (wf_ease hv h.1.2.2.2 qx).1 (wf_ease hv h.1.2.2.2 qx).2 ?_ (Int.le_refl _) (Int.le_refl _) (Int.le_refl _)
        · rw [cVo _ _ _ (by omega), cVof _ _ (by omega), cVs5, e1]
        · rw [mVs5, em]
        · exact none_o (fun z2 hz2 => by rw [gA_nk _ _ _ (by decide), gF_1, gA_nk _ _ _ (by decide)]; exact k2 z2 hz2)
    · refine Rt_bde (out_n qx) (Rt_neg (by decide) (Rt_some ?_))
      unfold f_X12_ease
      refine Rt_lm ?_
      rw [lmN1 h1.1.2.1, w32i (by omega) (by omega)]
      exact Rt_bde (in_y (by omega)) (Rt_neg (by decide) (Rt_bde (noEase_n qx) (Rt_neg (by decide) (ref_m h))))
  · refine Rt_bde (hasLink_n (lcN1 h.1.1) q) (Rt_pos rfl (Rt_some ?_))
    unfold f_X12_ease
    refine Rt_lm ?_
    rw [lmN1 h1.1.2.1, w32i (by omega) (by omega)]
    exact Rt_bde (in_n (by omega)) (Rt_pos rfl (ref_m h))
theorem acell_eq (z1 : Int) (z2 : Int) (z3 : Int) {μ : GM} {L : Int} (e : μ.2 1 0 = L) (hL : 0 ≤ L ∧ L < 6) : f_X2_addCell z1 z2 z3 μ = some (L, gF (gA (gA (gA μ 2 L z1) 3 L z2) 4 L z3) 1 0 (L + 1)) := by
  unfold f_X2_addCell lm
  simp only [gA_2, e]
  rw [ck_pos hL, ck_pos hL, ck_pos hL, w32i (by omega) (by omega)]
theorem alink_eq (z1 : Int) (z2 : Int) (z3 : Int) {μ : GM} {L : Int} (e : μ.2 5 0 = L) (hL : 0 ≤ L ∧ L < 12) : f_X3_add z1 z2 z3 μ = some (L, gF (gA (gA (gA μ 6 L z1) 7 L z2) 8 L z3) 5 0 (L + 1)) := by
  unfold f_X3_add lm
  simp only [gA_2, e]
  rw [ck_pos hL, ck_pos hL, ck_pos hL, w32i (by omega) (by omega)]
theorem ariver_eq (z1 : Int) (z2 : Int) (z3 : Int) (z4 : Int) {μ : GM} {L : Int} (e : μ.2 9 0 = L) (hL : 0 ≤ L ∧ L < 3) : f_X7_add z1 z2 z3 z4 μ = some (L, gF (gA (gA (gA (gA μ 10 L z1) 11 L z2) 12 L z3) 13 L z4) 9 0 (L + 1)) := by
  unfold f_X7_add lm
  simp only [gA_2, e]
  rw [ck_pos hL, ck_pos hL, ck_pos hL, ck_pos hL, w32i (by omega) (by omega)]
theorem adrain_eq (z1 : Int) (z2 : Int) (z3 : Int) {μ : GM} {L : Int} (e : μ.2 14 0 = L) (hL : 0 ≤ L ∧ L < 2) : f_X1_add z1 z2 z3 μ = some (L, gF (gA (gA (gA μ 15 L z1) 16 L z2) 17 L z3) 14 0 (L + 1)) := by
  unfold f_X1_add lm
  simp only [gA_2, e]
  rw [ck_pos hL, ck_pos hL, ck_pos hL, w32i (by omega) (by omega)]
theorem awell_eq (z1 : Int) (z2 : Int) (z3 : Int) {μ : GM} {L : Int} (e : μ.2 18 0 = L) (hL : 0 ≤ L ∧ L < 3) : f_X9_add z1 z2 z3 μ = some (L, gF (gA (gA (gA μ 19 L z1) 20 L z2) 21 L z3) 18 0 (L + 1)) := by
  unfold f_X9_add lm
  simp only [gA_2, e]
  rw [ck_pos hL, ck_pos hL, ck_pos hL, w32i (by omega) (by omega)]
