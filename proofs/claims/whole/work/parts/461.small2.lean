theorem upd_fun {f : Int → Int} {μ : GM} {k : Nat} {i x : Int} (h : μ.1 k = f) : (gA μ k i x).1 k = fun i' => if i' = i then x else f i' := by
  funext i'
  rw [gA_at, h]
theorem ok_limit {v : LV} {μ : GM} (h : InvV v μ) (z x : Int) : PrOK (f_X11_limit z x) (f_X12_limit z x) μ := by
  have hv := h.1.2.2.1
  have l0 := hv.1
  obtain ⟨h1, s1⟩ := inv_thr h
  unfold PrOK f_X11_limit
  by_cases q : 0 ≤ z ∧ z < v.2 0
  · have main : (x = -10000009 ∨ (0 ≤ x ∧ x ≤ 2000000)) → Rt (k_X11_limit_34 z x μ) (fun r μ1 => Rt (k_X12_limit_37 z x (gF μ1 53 0 0)) (fun r' μ2 => r' = r ∧ ∃ v, InvV v μ2) ∧ f_X12_noCell z (gF μ1 53 0 0) = some (0, gF μ1 53 0 0)) := by
      intro hx
      unfold k_X11_limit_34
      refine Rt_bde (exch_eq (N := 6) (by decide +kernel) (by omega)) (Rt_some ⟨?_, ?_⟩)
      · unfold k_X12_limit_37
        refine Rt_ck (by omega) (Rt_lt (Rt_ck (by omega) (Rt_lm (Rt_some ⟨?_, v, ?_⟩))))
        · rw [gF_1, gA_nk _ _ _ (by decide), h.2.2.2.2.2.2.2.1]
        · have o : ofr POt FOt μ (gA (gF (gA μ 48 z x) 53 0 0) 92 z x) := ((ofr.rfl.a (show POt 48 by unfold POt; omega)).f (show FOt 53 0 by unfold FOt; omega)).a (show POt 92 by unfold POt; omega)
          have h0 := h
          obtain ⟨-, -, -, c, w, s, p, qq⟩ := h
          refine mkO h0 o (CI_k c ?_ ?_ ?_ ?_) (WI_k w rfl ?_ ?_ ?_ ?_ ?_) (SI_k s ?_ ?_ ?_ ?_ ?_) (PI_k p rfl ?_ ?_ ?_) ?_
          all_goals first | (rw [gA_nk _ _ _ (by decide), gF_1, gA_nk _ _ _ (by decide)]; done) | (rw [gA_2, gF_ne _ _ (by omega), gA_2]; done) | skip
          have e1 : (gA (gF (gA μ 48 z x) 53 0 0) 92 z x).1 48 = fun i' => if i' = z then x else μ.1 48 i' := by
            rw [gA_nk _ _ _ (by decide), gF_1]; exact upd_fun rfl
          have e2 : (gA (gF (gA μ 48 z x) 53 0 0) 92 z x).1 92 = fun i' => if i' = z then x else μ.1 48 i' := upd_fun (by rw [gF_1, gA_nk _ _ _ (by decide), qq.1])
          unfold QI
          rw [e1, e2]
          refine ⟨rfl, fun c => ?_⟩
          show (if c = z then x else μ.1 48 c) = -10000009 ∨ (0 ≤ (if c = z then x else μ.1 48 c) ∧ (if c = z then x else μ.1 48 c) ≤ 2000000)
          by_cases qc : c = z
          · simp only [if_pos qc]; exact hx
          · simp only [if_neg qc]; exact qq.2 c
      · exact noCell_y (lmN0 (show mV 59 70 (gF (gA μ 48 z x) 53 0 0) = v by rw [mVo0, mVo _ _ _ (by omega)]; exact h.1.2.1)) (lim0 hv) q
    refine Rt_bde (hasCell_y (lcN0 h.1.1) q) (Rt_neg (by decide) ?_)
    unfold f_X12_limit
    by_cases e : x = -10000009
    · refine Rt_pos e ((main (Or.inl e)).mono (fun r μ1 k => Rt_lm (Rt_bde k.2 (Rt_pos rfl (Rt_pos e k.1)))))
    · refine Rt_neg e ?_
      by_cases qx : 0 ≤ x ∧ x ≤ 2000000
      · refine Rt_bde (out_y qx) (Rt_pos rfl ((main (Or.inr qx)).mono (fun r μ1 k => Rt_lm (Rt_bde k.2 (Rt_pos rfl (Rt_neg e (Rt_bde (in_y qx) (Rt_neg (by decide) k.1))))))))
      · refine Rt_bde (out_n qx) (Rt_neg (by decide) (Rt_some ?_))
        exact Rt_lm (Rt_bde (noCell_y (lmN0 h1.1.2.1) (lim0 hv) q) (Rt_pos rfl (Rt_neg e (Rt_bde (in_n qx) (Rt_pos rfl (ref_m h))))))
  · refine Rt_bde (hasCell_n (lcN0 h.1.1) q) (Rt_pos rfl (Rt_some ?_))
    unfold f_X12_limit
    exact Rt_lm (Rt_bde (noCell_n (lmN0 h1.1.2.1) (lim0 hv) q) (Rt_neg (by decide) (ref_m h)))
theorem ok_sign {v : LV} {μ : GM} (h : InvV v μ) (x : Int) : PrOK (f_X11_sign x) (f_X12_sign x) μ := by
  obtain ⟨h1, s1⟩ := inv_thr h
  have hp := h.2.2.2.2.2.2.1
  have hp2 := hp.2.1
  unfold PrOK f_X11_sign
  by_cases qx : 32 ≤ x ∧ x ≤ 126
  · refine Rt_bde (out_y qx) (Rt_pos rfl ?_)
    by_cases qf : μ.2 42 2 < 200
    · refine Rt_pos qf ?_
      obtain ⟨L, hL⟩ : ∃ L, L = μ.2 42 2 := ⟨_, rfl⟩
      have ha : f_X4_append x μ = some (L + 1, gA (gF μ 42 2 (L + 1)) 43 L x) := by
        unfold f_X4_append lm
        dsimp only
        rw [← hL, ck_pos (by omega), w32i (by omega) (by omega), gA_2, gF_same]
      refine Rt_bde ha (Rt_some ?_)
      unfold f_X12_sign
      obtain ⟨μ2, hμ2⟩ : ∃ μ2, μ2 = gF (gA (gF μ 42 2 (L + 1)) 43 L x) 53 0 0 := ⟨_, rfl⟩
      have e44 : μ2.2 53 44 = L := by rw [hμ2, gF_ne _ _ (by omega), gA_2, gF_ne _ _ (by omega), hL]; exact hp.1.symm
      refine Rt_lm (Rt_bde (in_y qx) (Rt_neg (by decide) ?_))
      rw [← hμ2, e44]
      unfold lm
      refine Rt_neg (by omega) (Rt_ck (by omega) ?_)
      dsimp only
      rw [gA_2, e44, w32i (by omega) (by omega)]
      refine Rt_some ⟨gF_same _ _ _ _, v, ?_⟩
      have o : ofr POt FOt μ (gF (gA μ2 88 L x) 53 44 (L + 1)) := by
        rw [hμ2]
        exact ((((ofr.rfl.f (show FOt 42 2 by unfold FOt; omega)).a (show POt 43 by unfold POt; omega)).f (show FOt 53 0 by unfold FOt; omega)).a (show POt 88 by unfold POt; omega)).f (show FOt 53 44 by unfold FOt; omega)
      have h0 := h
      obtain ⟨-, -, -, c, w, s, p, qq⟩ := h
      have A : ∀ k, k ≠ 43 → k ≠ 88 → (gF (gA μ2 88 L x) 53 44 (L + 1)).1 k = μ.1 k := fun k h1 h2 => by
        rw [gF_1, gA_nk _ _ _ h2, hμ2, gF_1, gA_nk _ _ _ h1, gF_1]
      refine mkO h0 o (CI_k c (A _ (by decide) (by decide)) (A _ (by decide) (by decide)) (A _ (by decide) (by decide)) (A _ (by decide) (by decide))) (WI_k w ?_ ?_ (A _ (by decide) (by decide)) (A _ (by decide) (by decide)) (A _ (by decide) (by decide)) (A _ (by decide) (by decide))) (SI_k s (A _ (by decide) (by decide)) (A _ (by decide) (by decide)) (A _ (by decide) (by decide)) (A _ (by decide) (by decide)) (A _ (by decide) (by decide))) ?_ (QI_k qq (A _ (by decide) (by decide)) (A _ (by decide) (by decide)))
      · rw [gF_ne _ _ (by omega), gA_2, hμ2, gF_ne _ _ (by omega), gA_2, gF_ne _ _ (by omega)]
      · rw [gF_ne _ _ (by omega), gA_2, hμ2, gF_ne _ _ (by omega), gA_2, gF_ne _ _ (by omega)]
      · have e1 : (gF (gA μ2 88 L x) 53 44 (L + 1)).2 42 2 = L + 1 := by rw [gF_ne _ _ (by omega), gA_2, hμ2, gF_ne _ _ (by omega), gA_2, gF_same]
        have e2 : (gF (gA μ2 88 L x) 53 44 (L + 1)).1 43 = fun i' => if i' = L then x else μ.1 43 i' := by
          rw [gF_1, gA_nk _ _ _ (by decide), hμ2, gF_1]; exact upd_fun rfl
        have e3 : (gF (gA μ2 88 L x) 53 44 (L + 1)).1 88 = fun i' => if i' = L then x else μ.1 43 i' := by
          rw [gF_1]; exact upd_fun (by rw [hμ2, gF_1, gA_nk _ _ _ (by decide), gF_1, p.2.2.1])
        unfold PI
        rw [e1, e2, e3, gF_same]
        refine ⟨rfl, by omega, rfl, fun i hi => ?_⟩
        show 32 ≤ (if (i : Int) = L then x else μ.1 43 i) ∧ (if (i : Int) = L then x else μ.1 43 i) ≤ 126
        by_cases qc : (i : Int) = L
        · rw [if_pos qc]; exact qx
        · rw [if_neg qc]; exact p.2.2.2 i (by omega)
    · refine Rt_neg qf (Rt_some ?_)
      unfold f_X12_sign
      refine Rt_lm (Rt_bde (in_y qx) (Rt_neg (by decide) (Rt_pos ?_ (ref_m h))))
      rw [gF_ne _ _ (by omega), ← hp.1]; omega
  · refine Rt_bde (out_n qx) (Rt_neg (by decide) (Rt_some ?_))
    unfold f_X12_sign
    exact Rt_lm (Rt_bde (in_n qx) (Rt_pos rfl (ref_m h)))
theorem ok_world {v : LV} {μ : GM} (h : InvV v μ) (z x : Int) : PrOK (f_X11_world z x) (f_X12_world z x) μ := by
  obtain ⟨h1, s1⟩ := inv_thr h
  have hv := h.1.2.2.1
  have l1 := hv.2.1
  have hw := h.2.2.2.2.1
  have hw2 := hw.2.1
  unfold PrOK f_X11_world
  by_cases q : 0 ≤ z ∧ z < v.2 1
  · refine Rt_bde (hasLink_y (lcN1 h.1.1) q) (Rt_neg (by decide) ?_)
    by_cases qx : 1 ≤ x ∧ x ≤ 9
    · refine Rt_bde (out_y qx) (Rt_pos rfl ?_)
      by_cases qf : μ.2 31 2 < 5
      · refine Rt_pos qf ?_
        obtain ⟨L, hL⟩ : ∃ L, L = μ.2 31 2 := ⟨_, rfl⟩
        have ha : f_X10_add z x μ = some (L, gF (gA (gA μ 32 L z) 33 L x) 31 2 (L + 1)) := by
          unfold f_X10_add lm
          simp only [gA_2, ← hL]
          rw [ck_pos (by omega), ck_pos (by omega), w32i (by omega) (by omega)]
        refine Rt_bde ha (Rt_some ?_)
        unfold f_X12_world
        obtain ⟨μ2, hμ2⟩ : ∃ μ2, μ2 = gF (gF (gA (gA μ 32 L z) 33 L x) 31 2 (L + 1)) 53 0 0 := ⟨_, rfl⟩
        have e37 : μ2.2 53 37 = L := by rw [hμ2, gF_ne _ _ (by omega), gF_ne _ _ (by omega), gA_2, gA_2, hL]; exact hw.1.symm
        have m2 : mV 59 70 μ2 = v := by rw [hμ2, mVo0, mVof _ _ (by omega), mVo _ _ _ (by omega), mVo _ _ _ (by omega)]; exact h.1.2.1
        refine Rt_lm ?_
        rw [← hμ2, lmN1 m2, w32i (by omega) (by omega)]
        refine Rt_bde (in_y (by omega)) (Rt_neg (by decide) (Rt_bde (noEase_y qx) (Rt_pos rfl ?_)))
        unfold lm
        simp only [gA_2, e37]
        refine Rt_neg (by omega) (Rt_ck (by omega) (Rt_ck (by omega) ?_))
        rw [w32i (x := L + 1) (by omega) (by omega)]
        refine Rt_some ⟨?_, v, ?_⟩
        · rw [gF_same, w32i (by omega) (by omega)]; omega
        have o : ofr POt FOt μ (gF (gA (gA μ2 82 L z) 83 L x) 53 37 (L + 1)) := by
          rw [hμ2]
          exact ((((((ofr.rfl.a (show POt 32 by unfold POt; omega)).a (show POt 33 by unfold POt; omega)).f (show FOt 31 2 by unfold FOt; omega)).f (show FOt 53 0 by unfold FOt; omega)).a (show POt 82 by unfold POt; omega)).a (show POt 83 by unfold POt; omega)).f (show FOt 53 37 by unfold FOt; omega)
        have h0 := h
        obtain ⟨-, -, -, c, w, s, p, qq⟩ := h
        have A : ∀ k, k ≠ 32 → k ≠ 33 → k ≠ 82 → k ≠ 83 → (gF (gA (gA μ2 82 L z) 83 L x) 53 37 (L + 1)).1 k = μ.1 k := fun k h1 h2 h3 h4 => by
          rw [gF_1, gA_nk _ _ _ h4, gA_nk _ _ _ h3, hμ2, gF_1, gF_1, gA_nk _ _ _ h2, gA_nk _ _ _ h1]
        have N : ∀ k, (k = 28 ∨ k = 29 ∨ k = 79 ∨ k = 81 ∨ k = 34 ∨ k = 35 ∨ k = 84 ∨ k = 85 ∨ k = 86 ∨ k = 43 ∨ k = 88 ∨ k = 48 ∨ k = 92) → (gF (gA (gA μ2 82 L z) 83 L x) 53 37 (L + 1)).1 k = μ.1 k := fun k hk => A k (by omega) (by omega) (by omega) (by omega)
        refine mkO h0 o (CI_k c (N _ (by decide)) (N _ (by decide)) (N _ (by decide)) (N _ (by decide))) ?_ (SI_k s (N _ (by decide)) (N _ (by decide)) (N _ (by decide)) (N _ (by decide)) (N _ (by decide))) (PI_k p ?_ ?_ (N _ (by decide)) (N _ (by decide))) (QI_k qq (N _ (by decide)) (N _ (by decide)))
        · have e0 : (gF (gA (gA μ2 82 L z) 83 L x) 53 37 (L + 1)).2 31 2 = L + 1 := by rw [gF_ne _ _ (by omega), gA_2, gA_2, hμ2, gF_ne _ _ (by omega), gF_same]
          have e1 : (gF (gA (gA μ2 82 L z) 83 L x) 53 37 (L + 1)).1 32 = fun i' => if i' = L then z else μ.1 32 i' := by
            rw [gF_1, gA_nk _ _ _ (by decide), gA_nk _ _ _ (by decide), hμ2, gF_1, gF_1, gA_nk _ _ _ (by decide)]; exact upd_fun rfl
          have e2 : (gF (gA (gA μ2 82 L z) 83 L x) 53 37 (L + 1)).1 33 = fun i' => if i' = L then x else μ.1 33 i' := by
            rw [gF_1, gA_nk _ _ _ (by decide), gA_nk _ _ _ (by decide), hμ2, gF_1, gF_1]; exact upd_fun (by rw [gA_nk _ _ _ (by decide)])
          have e3 : (gF (gA (gA μ2 82 L z) 83 L x) 53 37 (L + 1)).1 82 = fun i' => if i' = L then z else μ.1 32 i' := by
            rw [gF_1, gA_nk _ _ _ (by decide)]; exact upd_fun (by rw [hμ2, gF_1, gF_1, gA_nk _ _ _ (by decide), gA_nk _ _ _ (by decide), w.2.2.1])
          have e4 : (gF (gA (gA μ2 82 L z) 83 L x) 53 37 (L + 1)).1 83 = fun i' => if i' = L then x else μ.1 33 i' := by
            rw [gF_1]; exact upd_fun (by rw [gA_nk _ _ _ (by decide), hμ2, gF_1, gF_1, gA_nk _ _ _ (by decide), gA_nk _ _ _ (by decide), w.2.2.2.1])
          unfold WI
          rw [e0, e1, e2, e3, e4, gF_same]
          refine ⟨rfl, by omega, rfl, rfl, fun i hi => ?_⟩
          show (0 ≤ (if (i : Int) = L then z else μ.1 32 i) ∧ (if (i : Int) = L then z else μ.1 32 i) < v.2 1) ∧ 1 ≤ (if (i : Int) = L then x else μ.1 33 i) ∧ (if (i : Int) = L then x else μ.1 33 i) ≤ 9
          by_cases qc : (i : Int) = L
          · simp only [if_pos qc]; exact ⟨q, qx⟩
          · simp only [if_neg qc]; exact w.2.2.2.2 i (by omega)
        · rw [gF_ne _ _ (by omega), gA_2, gA_2, hμ2, gF_ne _ _ (by omega), gF_ne _ _ (by omega), gA_2, gA_2]
        · rw [gF_ne _ _ (by omega), gA_2, gA_2, hμ2, gF_ne _ _ (by omega), gF_ne _ _ (by omega), gA_2, gA_2]
      · refine Rt_neg qf (Rt_some ?_)
        unfold f_X12_world
        refine Rt_lm ?_
        rw [lmN1 h1.1.2.1, w32i (by omega) (by omega)]
        refine Rt_bde (in_y (by omega)) (Rt_neg (by decide) (Rt_bde (noEase_y qx) (Rt_pos rfl (Rt_pos ?_ (ref_m h)))))
        rw [gF_ne _ _ (by omega), ← hw.1]; omega
    · refine Rt_bde (out_n qx) (Rt_neg (by decide) (Rt_some ?_))
      unfold f_X12_world
      refine Rt_lm ?_
      rw [lmN1 h1.1.2.1, w32i (by omega) (by omega)]
      exact Rt_bde (in_y (by omega)) (Rt_neg (by decide) (Rt_bde (noEase_n qx) (Rt_neg (by decide) (ref_m h))))
  · refine Rt_bde (hasLink_n (lcN1 h.1.1) q) (Rt_pos rfl (Rt_some ?_))
    unfold f_X12_world
    refine Rt_lm ?_
    rw [lmN1 h1.1.2.1, w32i (by omega) (by omega)]
    exact Rt_bde (in_n (by omega)) (Rt_pos rfl (ref_m h))
theorem ok_see {v : LV} {μ : GM} (h : InvV v μ) (z x y : Int) : PrOK (f_X11_see z x y) (f_X12_see z x y) μ := by
  obtain ⟨h1, s1⟩ := inv_thr h
  have hv := h.1.2.2.1
  have l0 := hv.1
  unfold PrOK f_X11_see
  by_cases q : 0 ≤ z ∧ z < v.2 0
  · refine Rt_bde (hasCell_y (lcN0 h.1.1) q) (Rt_neg (by decide) ?_)
    by_cases qx : -9000000 ≤ x ∧ x ≤ 9000000
    · refine Rt_bde (out_y qx) (Rt_pos rfl ?_)
      by_cases qy : 100000 < y
      · refine Rt_pos qy (Rt_some ?_)
        unfold f_X12_see
        exact Rt_lm (Rt_bde (noCell_y (lmN0 h1.1.2.1) (lim0 hv) q) (Rt_pos rfl (Rt_bde (in_y qx) (Rt_neg (by decide) (Rt_pos qy (ref_m h))))))
      · refine Rt_neg qy ?_
        obtain ⟨b, hb⟩ : ∃ b : Int, b = if y < 0 then 0 else 1 := ⟨_, rfl⟩
        obtain ⟨g, hg⟩ : ∃ g : Int, g = if -1 < y then y else -1 := ⟨_, rfl⟩
        have hn : f_X10_note z x y μ = some (b, gA (gA μ 34 z x) 35 z g) := by
          unfold f_X10_note lm f_J9_max_7cf53
          rw [ck_pos (by omega)]
          dsimp only
          by_cases c : y < 0
          · have c2 : ¬ -1 < y := by omega
            rw [if_neg c2, hb, hg, if_pos c, if_neg c2]
            show ck _ _ = _
            rw [ck_pos (by omega), if_pos c]; rfl
          · have c2 : -1 < y := by omega
            rw [if_pos c2, hb, hg, if_neg c, if_pos c2]
            show ck _ _ = _
            rw [ck_pos (by omega), if_neg c]; rfl
        have m1 : mV 59 70 (gF (gA (gA μ 34 z x) 35 z g) 53 0 0) = v := by rw [mVo0, mVo _ _ _ (by omega), mVo _ _ _ (by omega)]; exact h.1.2.1
        obtain ⟨μ2, hμ2⟩ : ∃ μ2, μ2 = gF (gA (gA μ 34 z x) 35 z g) 53 0 0 := ⟨_, rfl⟩
        have fin : Rt (f_X12_see z x y (gA (gA μ 34 z x) 35 z g)) (fun r' μ2 => r' = b ∧ ∃ v, InvV v μ2) := by
          unfold f_X12_see
          have st : Rt (k_X12_see_54 z x y z b μ2) (fun r' μ2 => r' = b ∧ ∃ v, InvV v μ2) := by
            unfold k_X12_see_54
            have hb2 : b % 2 = b := by rw [hb]; split <;> rfl
            rw [hb2]
            have fi : InvV v (gA (gA (gA μ2 84 z b) 85 z x) 86 z y) := by
              have o : ofr POt FOt μ (gA (gA (gA μ2 84 z b) 85 z x) 86 z y) := by
                rw [hμ2]
                exact (((((ofr.rfl.a (show POt 34 by unfold POt; omega)).a (show POt 35 by unfold POt; omega)).f (show FOt 53 0 by unfold FOt; omega)).a (show POt 84 by unfold POt; omega)).a (show POt 85 by unfold POt; omega)).a (show POt 86 by unfold POt; omega)
              have h0 := h
              obtain ⟨-, -, -, c, w, s, p, qq⟩ := h
              have N : ∀ k, (k = 28 ∨ k = 29 ∨ k = 79 ∨ k = 81 ∨ k = 32 ∨ k = 33 ∨ k = 82 ∨ k = 83 ∨ k = 43 ∨ k = 88 ∨ k = 48 ∨ k = 92) → (gA (gA (gA μ2 84 z b) 85 z x) 86 z y).1 k = μ.1 k := fun k hk => by
                rw [gA_nk _ _ _ (by omega), gA_nk _ _ _ (by omega), gA_nk _ _ _ (by omega), hμ2, gF_1, gA_nk _ _ _ (by omega), gA_nk _ _ _ (by omega)]
              have F2 : ∀ k j, ¬ (k = 53 ∧ j = 0) → (gA (gA (gA μ2 84 z b) 85 z x) 86 z y).2 k j = μ.2 k j := fun k j hk => by
                rw [gA_2, gA_2, gA_2, hμ2, gF_ne _ _ hk, gA_2, gA_2]
              refine mkO h0 o (CI_k c (N _ (by decide)) (N _ (by decide)) (N _ (by decide)) (N _ (by decide))) (WI_k w (F2 _ _ (by decide)) (F2 _ _ (by decide)) (N _ (by decide)) (N _ (by decide)) (N _ (by decide)) (N _ (by decide))) ?_ (PI_k p (F2 _ _ (by decide)) (F2 _ _ (by decide)) (N _ (by decide)) (N _ (by decide))) (QI_k qq (N _ (by decide)) (N _ (by decide)))
              have e34 : (gA (gA (gA μ2 84 z b) 85 z x) 86 z y).1 34 = fun i' => if i' = z then x else μ.1 34 i' := by
                rw [gA_nk _ _ _ (by decide), gA_nk _ _ _ (by decide), gA_nk _ _ _ (by decide), hμ2, gF_1, gA_nk _ _ _ (by decide)]; exact upd_fun rfl
              have e35 : (gA (gA (gA μ2 84 z b) 85 z x) 86 z y).1 35 = fun i' => if i' = z then g else μ.1 35 i' := by
                rw [gA_nk _ _ _ (by decide), gA_nk _ _ _ (by decide), gA_nk _ _ _ (by decide), hμ2, gF_1]; exact upd_fun (by rw [gA_nk _ _ _ (by decide)])
              have e84 : (gA (gA (gA μ2 84 z b) 85 z x) 86 z y).1 84 = fun i' => if i' = z then b else μ.1 84 i' := by
                rw [gA_nk _ _ _ (by decide), gA_nk _ _ _ (by decide)]; exact upd_fun (by rw [hμ2, gF_1, gA_nk _ _ _ (by decide), gA_nk _ _ _ (by decide)])
              have e85 : (gA (gA (gA μ2 84 z b) 85 z x) 86 z y).1 85 = fun i' => if i' = z then x else μ.1 34 i' := by
                rw [gA_nk _ _ _ (by decide)]; exact upd_fun (by rw [gA_nk _ _ _ (by decide), hμ2, gF_1, gA_nk _ _ _ (by decide), gA_nk _ _ _ (by decide), s.1])
              have e86 : (gA (gA (gA μ2 84 z b) 85 z x) 86 z y).1 86 = fun i' => if i' = z then y else μ.1 86 i' := upd_fun (by rw [gA_nk _ _ _ (by decide), gA_nk _ _ _ (by decide), hμ2, gF_1, gA_nk _ _ _ (by decide), gA_nk _ _ _ (by decide)])
              unfold SI
              rw [e34, e35, e84, e85, e86]
              refine ⟨rfl, fun c2 => ?_⟩
              show (-9000000 ≤ (if c2 = z then x else μ.1 34 c2) ∧ (if c2 = z then x else μ.1 34 c2) ≤ 9000000) ∧ (((if c2 = z then b else μ.1 84 c2) = 1 ∧ (if c2 = z then g else μ.1 35 c2) = (if c2 = z then y else μ.1 86 c2) ∧ 0 ≤ (if c2 = z then g else μ.1 35 c2) ∧ (if c2 = z then g else μ.1 35 c2) ≤ 100000) ∨ ((if c2 = z then b else μ.1 84 c2) = 0 ∧ (if c2 = z then g else μ.1 35 c2) = -1))
              by_cases qc : c2 = z
              · simp only [if_pos qc]
                refine ⟨qx, ?_⟩
                by_cases c3 : y < 0
                · rw [if_pos c3] at hb
                  rw [if_neg (by omega)] at hg
                  exact Or.inr ⟨hb, hg⟩
                · rw [if_neg c3] at hb
                  rw [if_pos (by omega)] at hg
                  exact Or.inl ⟨hb, hg, by omega, by omega⟩
              · simp only [if_neg qc]
                exact s.2 c2
            refine Rt_ck (by omega) (Rt_lm (Rt_ck (by omega) (Rt_lm (Rt_ck (by omega) (Rt_lm (Rt_if (fun c => Rt_some ⟨?_, v, fi⟩) (fun c => Rt_some ⟨?_, v, fi⟩)))))))
            · rw [hb, if_pos c]
            · rw [hb, if_neg c]
          refine Rt_lm ?_
          rw [← hμ2] at m1 ⊢
          refine Rt_bde (noCell_y (lmN0 m1) (lim0 hv) q) (Rt_pos rfl (Rt_bde (in_y qx) (Rt_neg (by decide) (Rt_neg qy (Rt_if (fun c => ?_) (fun c => ?_))))))
          · rw [hb, if_pos c] at st; rw [hb, if_pos c]; exact st
          · rw [hb, if_neg c] at st; rw [hb, if_neg c]; exact st
        refine Rt_bde hn (Rt_if (fun c => Rt_some ?_) (fun c => Rt_some ?_))
        · rw [c] at fin; exact fin
        · have : b = 1 := by rw [hb] at c ⊢; split at c <;> split <;> omega
          rw [this] at fin; exact fin
    · refine Rt_bde (out_n qx) (Rt_neg (by decide) (Rt_some ?_))
      unfold f_X12_see
      exact Rt_lm (Rt_bde (noCell_y (lmN0 h1.1.2.1) (lim0 hv) q) (Rt_pos rfl (Rt_bde (in_n qx) (Rt_pos rfl (ref_m h)))))
  · refine Rt_bde (hasCell_n (lcN0 h.1.1) q) (Rt_pos rfl (Rt_some ?_))
    unfold f_X12_see
    exact Rt_lm (Rt_bde (noCell_n (lmN0 h1.1.2.1) (lim0 hv) q) (Rt_neg (by decide) (ref_m h)))
