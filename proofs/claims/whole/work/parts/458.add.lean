/-! things that come to the land -/
def PLd95 (μ ν : GM) : Prop := ofr (fun k => k = 95) nF μ ν
theorem kC {v : LV} {μ μ1 : GM} (h : InvV v μ) (k1 : ofr (fun k => k = 95) nF μ μ1) : cV 22 μ1 = v ∧ mV 59 70 μ1 = v := ⟨(cV_keep k1 (fun k hk => by omega) (fun _ _ _ z => z) (by omega)).trans h.1.1, (mV_keep k1 (fun k hk hk2 => by omega) (fun _ _ _ z => z) (by omega) (by omega)).trans h.1.2.1⟩
theorem kL95 {μ μ1 : GM} (k1 : ofr (fun k => k = 95) nF μ μ1) : ofr PLd FLd μ μ1 := k1.mono (fun k hk => by unfold PLd; omega) (fun _ _ z => z.elim)
theorem ok_cell {v : LV} {μ : GM} (h : InvV v μ) (z1 z2 z3 : Int) : PrOK (f_X11_cell z1 z2 z3) (f_X12_cell z1 z2 z3) μ := by
  have hv := h.1.2.2.1
  have l0 := hv.1
  have l1 := hv.2.1
  have l2 := hv.2.2.1
  have l3 := hv.2.2.2.1
  have l4 := hv.2.2.2.2.1
  obtain ⟨h1, s1⟩ := inv_thr h
  unfold PrOK f_X11_cell
  by_cases q0 : 0 ≤ z1 ∧ z1 ≤ 500
  · refine Rt_bde (out_y q0) (Rt_pos rfl ?_)
    by_cases q1 : 0 ≤ z2 ∧ z2 ≤ 99
    · refine Rt_bde (out_y q1) (Rt_pos rfl ?_)
      by_cases q2 : 1 ≤ z3 ∧ z3 ≤ 9
      · refine Rt_bde (out_y q2) (Rt_pos rfl ?_)
        by_cases q3 : v.2 0 < 6
        · refine Rt_pos (by rw [lcN0 h.1.1]; exact q3) ?_
          refine Rt_bd (forget_spec μ) (fun _ μ1 ⟨k1, k2⟩ => ?_)
          obtain ⟨e1, e2⟩ := kC h k1
          refine Rt_bde (acell_eq z1 z2 z3 (lcN0 e1) (by omega)) (Rt_some ?_)
          obtain ⟨μ2, hμ2⟩ : ∃ μ2, μ2 = gF (gA (gA (gA μ1 2 (v.2 0) z1) 3 (v.2 0) z2) 4 (v.2 0) z3) 1 0 (v.2 0 + 1) := ⟨_, rfl⟩
          rw [← hμ2]
          have c2 : cV 22 μ2 = (setN (setA (setA (setA v 0 (v.2 0) z1) 1 (v.2 0) z2) 2 (v.2 0) z3) 0 (v.2 0 + 1)) := by
            rw [hμ2, cVn0, cVs2, cVs1, cVs0, e1]
          have m2 : mV 59 70 μ2 = v := by
            rw [hμ2, mVof _ _ (by omega), mVo _ _ _ (by omega), mVo _ _ _ (by omega), mVo _ _ _ (by omega), e2]
          have o2 : ofr PLd FLd μ μ2 := by
            rw [hμ2]
            exact ((((kL95 k1).a (show PLd 2 by unfold PLd; omega)).a (show PLd 3 by unfold PLd; omega)).a (show PLd 4 by unfold PLd; omega)).f (show FLd 1 0 by unfold FLd; omega)
          have p2 : μ2.1 95 = μ1.1 95 := by
            rw [hμ2, gF_1, gA_nk _ _ _ (by decide), gA_nk _ _ _ (by decide), gA_nk _ _ _ (by decide)]
          unfold f_X12_cell
          refine Rt_lm ?_
          obtain ⟨μ3, hμ3⟩ : ∃ μ3, μ3 = gF μ2 53 0 0 := ⟨_, rfl⟩
          rw [← hμ3]
          have m3 : mV 59 70 μ3 = v := by rw [hμ3, mVo0]; exact m2
          refine Rt_bde (in_y q0) (Rt_neg (by decide) (Rt_bde (in_y q1) (Rt_neg (by decide) (Rt_bde (in_y q2) (Rt_neg (by decide) (Rt_neg (by rw [lmN0 m3]; omega) (?_)))))))
          unfold lm
          simp only [gA_2, lmN0 m3]
          refine Rt_ck (by omega) (Rt_ck (by omega) (Rt_ck (by omega) (?_)))
          rw [w32i (x := v.2 0 + 1) (by omega) (by omega)]
          refine Rt_some ⟨?_, (setN (setA (setA (setA v 0 (v.2 0) z1) 1 (v.2 0) z2) 2 (v.2 0) z3) 0 (v.2 0 + 1)), ?_⟩
          · rw [gF_same, w32i (by omega) (by omega)]; omega
          · have o3 : ofr PLd FLd μ μ3 := by rw [hμ3]; exact o2.f (show FLd 53 0 by unfold FLd; omega)
            have o4 : ofr PLd FLd μ (gF (gA (gA (gA μ3 54 (v.2 0) z1) 55 (v.2 0) z2) 56 (v.2 0) z3) 53 1 (v.2 0 + 1)) := (((o3.a (show PLd 54 by unfold PLd; omega)).a (show PLd 55 by unfold PLd; omega)).a (show PLd 56 by unfold PLd; omega)).f (show FLd 53 1 by unfold FLd; omega)
            refine mkInv h o4 ?_ ?_ (wf_cell hv h.1.2.2.2 q3 q0 q1 q2).1 (wf_cell hv h.1.2.2.2 q3 q0 q1 q2).2 ?_ ?_ ?_ ?_
            · rw [cVof _ _ (by omega), cVo _ _ _ (by omega), cVo _ _ _ (by omega), cVo _ _ _ (by omega), hμ3, cVof _ _ (by omega)]; exact c2
            · rw [mVn0, mVs2, mVs1, mVs0, m3]
            · refine none_o (fun z2 hz2 => ?_)
              rw [gF_1, gA_nk _ _ _ (by decide), gA_nk _ _ _ (by decide), gA_nk _ _ _ (by decide), hμ3, gF_1, p2]; exact k2 z2 hz2
            · exact Int.le_refl _
            · exact Int.le_refl _
            · exact Int.le_refl _
        · refine Rt_neg (by rw [lcN0 h.1.1]; exact q3) (Rt_some ?_)
          unfold f_X12_cell
          exact Rt_lm (Rt_bde (in_y q0) (Rt_neg (by decide) (Rt_bde (in_y q1) (Rt_neg (by decide) (Rt_bde (in_y q2) (Rt_neg (by decide) (Rt_pos (by rw [lmN0 h1.1.2.1]; omega) (ref_m h))))))))
      · refine Rt_bde (out_n q2) (Rt_neg (by decide) (Rt_some ?_))
        unfold f_X12_cell
        exact Rt_lm (Rt_bde (in_y q0) (Rt_neg (by decide) (Rt_bde (in_y q1) (Rt_neg (by decide) (Rt_bde (in_n q2) (Rt_pos rfl (ref_m h)))))))
    · refine Rt_bde (out_n q1) (Rt_neg (by decide) (Rt_some ?_))
      unfold f_X12_cell
      exact Rt_lm (Rt_bde (in_y q0) (Rt_neg (by decide) (Rt_bde (in_n q1) (Rt_pos rfl (ref_m h)))))
  · refine Rt_bde (out_n q0) (Rt_neg (by decide) (Rt_some ?_))
    unfold f_X12_cell
    exact Rt_lm (Rt_bde (in_n q0) (Rt_pos rfl (ref_m h)))
theorem ok_link {v : LV} {μ : GM} (h : InvV v μ) (z1 z2 z3 : Int) : PrOK (f_X11_link z1 z2 z3) (f_X12_link z1 z2 z3) μ := by
  have hv := h.1.2.2.1
  have l0 := hv.1
  have l1 := hv.2.1
  have l2 := hv.2.2.1
  have l3 := hv.2.2.2.1
  have l4 := hv.2.2.2.2.1
  obtain ⟨h1, s1⟩ := inv_thr h
  unfold PrOK f_X11_link
  by_cases q0 : 0 ≤ z1 ∧ z1 < v.2 0
  · refine Rt_bde (hasCell_y (lcN0 h.1.1) q0) (Rt_neg (by decide) ?_)
    by_cases q1 : 0 ≤ z2 ∧ z2 < v.2 0
    · refine Rt_bde (hasCell_y (lcN0 h.1.1) q1) (Rt_neg (by decide) ?_)
      by_cases q2 : 1 ≤ z3 ∧ z3 ≤ 9
      · refine Rt_bde (out_y q2) (Rt_pos rfl ?_)
        by_cases q3 : ¬ z1 = z2
        · refine Rt_neg q3 ?_
          by_cases q4 : v.2 1 < 12
          · refine Rt_pos (by rw [lcN1 h.1.1]; exact q4) ?_
            refine Rt_bd (forget_spec μ) (fun _ μ1 ⟨k1, k2⟩ => ?_)
            obtain ⟨e1, e2⟩ := kC h k1
            refine Rt_bde (alink_eq z1 z2 z3 (lcN1 e1) (by omega)) (Rt_some ?_)
            obtain ⟨μ2, hμ2⟩ : ∃ μ2, μ2 = gF (gA (gA (gA μ1 6 (v.2 1) z1) 7 (v.2 1) z2) 8 (v.2 1) z3) 5 0 (v.2 1 + 1) := ⟨_, rfl⟩
            rw [← hμ2]
            have c2 : cV 22 μ2 = (setN (setA (setA (setA v 3 (v.2 1) z1) 4 (v.2 1) z2) 5 (v.2 1) z3) 1 (v.2 1 + 1)) := by
              rw [hμ2, cVn1, cVs5, cVs4, cVs3, e1]
            have m2 : mV 59 70 μ2 = v := by
              rw [hμ2, mVof _ _ (by omega), mVo _ _ _ (by omega), mVo _ _ _ (by omega), mVo _ _ _ (by omega), e2]
            have o2 : ofr PLd FLd μ μ2 := by
              rw [hμ2]
              exact ((((kL95 k1).a (show PLd 6 by unfold PLd; omega)).a (show PLd 7 by unfold PLd; omega)).a (show PLd 8 by unfold PLd; omega)).f (show FLd 5 0 by unfold FLd; omega)
            have p2 : μ2.1 95 = μ1.1 95 := by
              rw [hμ2, gF_1, gA_nk _ _ _ (by decide), gA_nk _ _ _ (by decide), gA_nk _ _ _ (by decide)]
            unfold f_X12_link
            refine Rt_lm ?_
            obtain ⟨μ3, hμ3⟩ : ∃ μ3, μ3 = gF μ2 53 0 0 := ⟨_, rfl⟩
            rw [← hμ3]
            have m3 : mV 59 70 μ3 = v := by rw [hμ3, mVo0]; exact m2
            refine Rt_bde (noCell_y (lmN0 m3) (lim0 hv) q0) (Rt_pos rfl (Rt_bde (noCell_y (lmN0 m3) (lim0 hv) q1) (Rt_pos rfl (Rt_bde (noEase_y q2) (Rt_pos rfl (Rt_neg q3 (Rt_neg (by rw [lmN1 m3]; omega) (?_))))))))
            unfold lm
            simp only [gA_2, lmN1 m3]
            refine Rt_ck (by omega) (Rt_ck (by omega) (Rt_ck (by omega) (?_)))
            rw [w32i (x := v.2 1 + 1) (by omega) (by omega)]
            refine Rt_some ⟨?_, (setN (setA (setA (setA v 3 (v.2 1) z1) 4 (v.2 1) z2) 5 (v.2 1) z3) 1 (v.2 1 + 1)), ?_⟩
            · rw [gF_same, w32i (by omega) (by omega)]; omega
            · have o3 : ofr PLd FLd μ μ3 := by rw [hμ3]; exact o2.f (show FLd 53 0 by unfold FLd; omega)
              have o4 : ofr PLd FLd μ (gF (gA (gA (gA μ3 57 (v.2 1) z1) 58 (v.2 1) z2) 59 (v.2 1) z3) 53 5 (v.2 1 + 1)) := (((o3.a (show PLd 57 by unfold PLd; omega)).a (show PLd 58 by unfold PLd; omega)).a (show PLd 59 by unfold PLd; omega)).f (show FLd 53 5 by unfold FLd; omega)
              refine mkInv h o4 ?_ ?_ (wf_link hv h.1.2.2.2 q4 q0 q1 q3 q2).1 (wf_link hv h.1.2.2.2 q4 q0 q1 q3 q2).2 ?_ ?_ ?_ ?_
              · rw [cVof _ _ (by omega), cVo _ _ _ (by omega), cVo _ _ _ (by omega), cVo _ _ _ (by omega), hμ3, cVof _ _ (by omega)]; exact c2
              · rw [mVn1, mVs5, mVs4, mVs3, m3]
              · refine none_o (fun z2 hz2 => ?_)
                rw [gF_1, gA_nk _ _ _ (by decide), gA_nk _ _ _ (by decide), gA_nk _ _ _ (by decide), hμ3, gF_1, p2]; exact k2 z2 hz2
              · show v.2 1 ≤ v.2 1 + 1; omega
              · exact Int.le_refl _
              · exact Int.le_refl _
          · refine Rt_neg (by rw [lcN1 h.1.1]; exact q4) (Rt_some ?_)
            unfold f_X12_link
            exact Rt_lm (Rt_bde (noCell_y (lmN0 h1.1.2.1) (lim0 hv) q0) (Rt_pos rfl (Rt_bde (noCell_y (lmN0 h1.1.2.1) (lim0 hv) q1) (Rt_pos rfl (Rt_bde (noEase_y q2) (Rt_pos rfl (Rt_neg q3 (Rt_pos (by rw [lmN1 h1.1.2.1]; omega) (ref_m h)))))))))
        · refine Rt_pos (Decidable.of_not_not q3) (Rt_some ?_)
          unfold f_X12_link
          exact Rt_lm (Rt_bde (noCell_y (lmN0 h1.1.2.1) (lim0 hv) q0) (Rt_pos rfl (Rt_bde (noCell_y (lmN0 h1.1.2.1) (lim0 hv) q1) (Rt_pos rfl (Rt_bde (noEase_y q2) (Rt_pos rfl (Rt_pos (Decidable.of_not_not q3) (ref_m h))))))))
      · refine Rt_bde (out_n q2) (Rt_neg (by decide) (Rt_some ?_))
        unfold f_X12_link
        exact Rt_lm (Rt_bde (noCell_y (lmN0 h1.1.2.1) (lim0 hv) q0) (Rt_pos rfl (Rt_bde (noCell_y (lmN0 h1.1.2.1) (lim0 hv) q1) (Rt_pos rfl (Rt_bde (noEase_n q2) (Rt_neg (by decide) (ref_m h)))))))
    · refine Rt_bde (hasCell_n (lcN0 h.1.1) q1) (Rt_pos rfl (Rt_some ?_))
      unfold f_X12_link
      exact Rt_lm (Rt_bde (noCell_y (lmN0 h1.1.2.1) (lim0 hv) q0) (Rt_pos rfl (Rt_bde (noCell_n (lmN0 h1.1.2.1) (lim0 hv) q1) (Rt_neg (by decide) (ref_m h)))))
  · refine Rt_bde (hasCell_n (lcN0 h.1.1) q0) (Rt_pos rfl (Rt_some ?_))
    unfold f_X12_link
    exact Rt_lm (Rt_bde (noCell_n (lmN0 h1.1.2.1) (lim0 hv) q0) (Rt_neg (by decide) (ref_m h)))
theorem ok_river {v : LV} {μ : GM} (h : InvV v μ) (z1 z2 z3 z4 : Int) : PrOK (f_X11_river z1 z2 z3 z4) (f_X12_river z1 z2 z3 z4) μ := by
  have hv := h.1.2.2.1
  have l0 := hv.1
  have l1 := hv.2.1
  have l2 := hv.2.2.1
  have l3 := hv.2.2.2.1
  have l4 := hv.2.2.2.2.1
  obtain ⟨h1, s1⟩ := inv_thr h
  unfold PrOK f_X11_river
  by_cases q0 : 0 ≤ z1 ∧ z1 < v.2 0
  · refine Rt_bde (hasCell_y (lcN0 h.1.1) q0) (Rt_neg (by decide) ?_)
    by_cases q1 : 0 ≤ z2 ∧ z2 ≤ 1000
    · refine Rt_bde (out_y q1) (Rt_pos rfl ?_)
      by_cases q2 : 0 ≤ z3 ∧ z3 ≤ z2
      · refine Rt_bde (out_y q2) (Rt_pos rfl ?_)
        by_cases q3 : 1 ≤ z4 ∧ z4 ≤ 9
        · refine Rt_bde (out_y q3) (Rt_pos rfl ?_)
          by_cases q4 : v.2 2 < 3
          · refine Rt_pos (by rw [lcN2 h.1.1]; exact q4) ?_
            refine Rt_bd (forget_spec μ) (fun _ μ1 ⟨k1, k2⟩ => ?_)
            obtain ⟨e1, e2⟩ := kC h k1
            refine Rt_bde (ariver_eq z1 z2 z3 z4 (lcN2 e1) (by omega)) (Rt_some ?_)
            obtain ⟨μ2, hμ2⟩ : ∃ μ2, μ2 = gF (gA (gA (gA (gA μ1 10 (v.2 2) z1) 11 (v.2 2) z2) 12 (v.2 2) z3) 13 (v.2 2) z4) 9 0 (v.2 2 + 1) := ⟨_, rfl⟩
            rw [← hμ2]
            have c2 : cV 22 μ2 = (setN (setA (setA (setA (setA v 6 (v.2 2) z1) 7 (v.2 2) z2) 8 (v.2 2) z3) 9 (v.2 2) z4) 2 (v.2 2 + 1)) := by
              rw [hμ2, cVn2, cVs9, cVs8, cVs7, cVs6, e1]
            have m2 : mV 59 70 μ2 = v := by
              rw [hμ2, mVof _ _ (by omega), mVo _ _ _ (by omega), mVo _ _ _ (by omega), mVo _ _ _ (by omega), mVo _ _ _ (by omega), e2]
            have o2 : ofr PLd FLd μ μ2 := by
              rw [hμ2]
              exact (((((kL95 k1).a (show PLd 10 by unfold PLd; omega)).a (show PLd 11 by unfold PLd; omega)).a (show PLd 12 by unfold PLd; omega)).a (show PLd 13 by unfold PLd; omega)).f (show FLd 9 0 by unfold FLd; omega)
            have p2 : μ2.1 95 = μ1.1 95 := by
              rw [hμ2, gF_1, gA_nk _ _ _ (by decide), gA_nk _ _ _ (by decide), gA_nk _ _ _ (by decide), gA_nk _ _ _ (by decide)]
            unfold f_X12_river
            refine Rt_lm ?_
            obtain ⟨μ3, hμ3⟩ : ∃ μ3, μ3 = gF μ2 53 0 0 := ⟨_, rfl⟩
            rw [← hμ3]
            have m3 : mV 59 70 μ3 = v := by rw [hμ3, mVo0]; exact m2
            refine Rt_bde (noCell_y (lmN0 m3) (lim0 hv) q0) (Rt_pos rfl (Rt_bde (in_y q1) (Rt_neg (by decide) (Rt_bde (in_y q2) (Rt_neg (by decide) (Rt_bde (noEase_y q3) (Rt_pos rfl (Rt_neg (by rw [lmN2 m3]; omega) (?_)))))))))
            unfold lm
            simp only [gA_2, lmN2 m3]
            refine Rt_ck (by omega) (Rt_ck (by omega) (Rt_ck (by omega) (Rt_ck (by omega) (?_))))
            rw [w32i (x := v.2 2 + 1) (by omega) (by omega)]
            refine Rt_some ⟨?_, (setN (setA (setA (setA (setA v 6 (v.2 2) z1) 7 (v.2 2) z2) 8 (v.2 2) z3) 9 (v.2 2) z4) 2 (v.2 2 + 1)), ?_⟩
            · rw [gF_same, w32i (by omega) (by omega)]; omega
            · have o3 : ofr PLd FLd μ μ3 := by rw [hμ3]; exact o2.f (show FLd 53 0 by unfold FLd; omega)
              have o4 : ofr PLd FLd μ (gF (gA (gA (gA (gA μ3 60 (v.2 2) z1) 61 (v.2 2) z2) 62 (v.2 2) z3) 63 (v.2 2) z4) 53 9 (v.2 2 + 1)) := ((((o3.a (show PLd 60 by unfold PLd; omega)).a (show PLd 61 by unfold PLd; omega)).a (show PLd 62 by unfold PLd; omega)).a (show PLd 63 by unfold PLd; omega)).f (show FLd 53 9 by unfold FLd; omega)
              refine mkInv h o4 ?_ ?_ (wf_river hv h.1.2.2.2 q4 q0 q1.2 q2 q3).1 (wf_river hv h.1.2.2.2 q4 q0 q1.2 q2 q3).2 ?_ ?_ ?_ ?_
              · rw [cVof _ _ (by omega), cVo _ _ _ (by omega), cVo _ _ _ (by omega), cVo _ _ _ (by omega), cVo _ _ _ (by omega), hμ3, cVof _ _ (by omega)]; exact c2
              · rw [mVn2, mVs9, mVs8, mVs7, mVs6, m3]
              · refine none_o (fun z2 hz2 => ?_)
                rw [gF_1, gA_nk _ _ _ (by decide), gA_nk _ _ _ (by decide), gA_nk _ _ _ (by decide), gA_nk _ _ _ (by decide), hμ3, gF_1, p2]; exact k2 z2 hz2
              · exact Int.le_refl _
              · show v.2 2 ≤ v.2 2 + 1; omega
              · exact Int.le_refl _
          · refine Rt_neg (by rw [lcN2 h.1.1]; exact q4) (Rt_some ?_)
            unfold f_X12_river
            exact Rt_lm (Rt_bde (noCell_y (lmN0 h1.1.2.1) (lim0 hv) q0) (Rt_pos rfl (Rt_bde (in_y q1) (Rt_neg (by decide) (Rt_bde (in_y q2) (Rt_neg (by decide) (Rt_bde (noEase_y q3) (Rt_pos rfl (Rt_pos (by rw [lmN2 h1.1.2.1]; omega) (ref_m h))))))))))
        · refine Rt_bde (out_n q3) (Rt_neg (by decide) (Rt_some ?_))
          unfold f_X12_river
          exact Rt_lm (Rt_bde (noCell_y (lmN0 h1.1.2.1) (lim0 hv) q0) (Rt_pos rfl (Rt_bde (in_y q1) (Rt_neg (by decide) (Rt_bde (in_y q2) (Rt_neg (by decide) (Rt_bde (noEase_n q3) (Rt_neg (by decide) (ref_m h)))))))))
      · refine Rt_bde (out_n q2) (Rt_neg (by decide) (Rt_some ?_))
        unfold f_X12_river
        exact Rt_lm (Rt_bde (noCell_y (lmN0 h1.1.2.1) (lim0 hv) q0) (Rt_pos rfl (Rt_bde (in_y q1) (Rt_neg (by decide) (Rt_bde (in_n q2) (Rt_pos rfl (ref_m h)))))))
    · refine Rt_bde (out_n q1) (Rt_neg (by decide) (Rt_some ?_))
      unfold f_X12_river
      exact Rt_lm (Rt_bde (noCell_y (lmN0 h1.1.2.1) (lim0 hv) q0) (Rt_pos rfl (Rt_bde (in_n q1) (Rt_pos rfl (ref_m h)))))
  · refine Rt_bde (hasCell_n (lcN0 h.1.1) q0) (Rt_pos rfl (Rt_some ?_))
    unfold f_X12_river
    exact Rt_lm (Rt_bde (noCell_n (lmN0 h1.1.2.1) (lim0 hv) q0) (Rt_neg (by decide) (ref_m h)))
theorem ok_drain {v : LV} {μ : GM} (h : InvV v μ) (z1 z2 z3 : Int) : PrOK (f_X11_drain z1 z2 z3) (f_X12_drain z1 z2 z3) μ := by
  have hv := h.1.2.2.1
  have l0 := hv.1
  have l1 := hv.2.1
  have l2 := hv.2.2.1
  have l3 := hv.2.2.2.1
  have l4 := hv.2.2.2.2.1
  obtain ⟨h1, s1⟩ := inv_thr h
  unfold PrOK f_X11_drain
  by_cases q0 : 0 ≤ z1 ∧ z1 < v.2 0
  · refine Rt_bde (hasCell_y (lcN0 h.1.1) q0) (Rt_neg (by decide) ?_)
    by_cases q1 : 0 ≤ z2 ∧ z2 ≤ 1000
    · refine Rt_bde (out_y q1) (Rt_pos rfl ?_)
      by_cases q2 : 1 ≤ z3 ∧ z3 ≤ 9
      · refine Rt_bde (out_y q2) (Rt_pos rfl ?_)
        by_cases q3 : v.2 3 < 2
        · refine Rt_pos (by rw [lcN3 h.1.1]; exact q3) ?_
          refine Rt_bd (forget_spec μ) (fun _ μ1 ⟨k1, k2⟩ => ?_)
          obtain ⟨e1, e2⟩ := kC h k1
          refine Rt_bde (adrain_eq z1 z2 z3 (lcN3 e1) (by omega)) (Rt_some ?_)
          obtain ⟨μ2, hμ2⟩ : ∃ μ2, μ2 = gF (gA (gA (gA μ1 15 (v.2 3) z1) 16 (v.2 3) z2) 17 (v.2 3) z3) 14 0 (v.2 3 + 1) := ⟨_, rfl⟩
          rw [← hμ2]
          have c2 : cV 22 μ2 = (setN (setA (setA (setA v 10 (v.2 3) z1) 11 (v.2 3) z2) 12 (v.2 3) z3) 3 (v.2 3 + 1)) := by
            rw [hμ2, cVn3, cVs12, cVs11, cVs10, e1]
          have m2 : mV 59 70 μ2 = v := by
            rw [hμ2, mVof _ _ (by omega), mVo _ _ _ (by omega), mVo _ _ _ (by omega), mVo _ _ _ (by omega), e2]
          have o2 : ofr PLd FLd μ μ2 := by
            rw [hμ2]
            exact ((((kL95 k1).a (show PLd 15 by unfold PLd; omega)).a (show PLd 16 by unfold PLd; omega)).a (show PLd 17 by unfold PLd; omega)).f (show FLd 14 0 by unfold FLd; omega)
          have p2 : μ2.1 95 = μ1.1 95 := by
            rw [hμ2, gF_1, gA_nk _ _ _ (by decide), gA_nk _ _ _ (by decide), gA_nk _ _ _ (by decide)]
          unfold f_X12_drain
          refine Rt_lm ?_
          obtain ⟨μ3, hμ3⟩ : ∃ μ3, μ3 = gF μ2 53 0 0 := ⟨_, rfl⟩
          rw [← hμ3]
          have m3 : mV 59 70 μ3 = v := by rw [hμ3, mVo0]; exact m2
          refine Rt_bde (noCell_y (lmN0 m3) (lim0 hv) q0) (Rt_pos rfl (Rt_bde (in_y q1) (Rt_neg (by decide) (Rt_bde (noEase_y q2) (Rt_pos rfl (Rt_neg (by rw [lmN3 m3]; omega) (?_)))))))
          unfold lm
          simp only [gA_2, lmN3 m3]
          refine Rt_ck (by omega) (Rt_ck (by omega) (Rt_ck (by omega) (?_)))
          rw [w32i (x := v.2 3 + 1) (by omega) (by omega)]
          refine Rt_some ⟨?_, (setN (setA (setA (setA v 10 (v.2 3) z1) 11 (v.2 3) z2) 12 (v.2 3) z3) 3 (v.2 3 + 1)), ?_⟩
          · rw [gF_same, w32i (by omega) (by omega)]; omega
          · have o3 : ofr PLd FLd μ μ3 := by rw [hμ3]; exact o2.f (show FLd 53 0 by unfold FLd; omega)
            have o4 : ofr PLd FLd μ (gF (gA (gA (gA μ3 64 (v.2 3) z1) 65 (v.2 3) z2) 66 (v.2 3) z3) 53 14 (v.2 3 + 1)) := (((o3.a (show PLd 64 by unfold PLd; omega)).a (show PLd 65 by unfold PLd; omega)).a (show PLd 66 by unfold PLd; omega)).f (show FLd 53 14 by unfold FLd; omega)
            refine mkInv h o4 ?_ ?_ (wf_drain hv h.1.2.2.2 q3 q0 q1 q2).1 (wf_drain hv h.1.2.2.2 q3 q0 q1 q2).2 ?_ ?_ ?_ ?_
            · rw [cVof _ _ (by omega), cVo _ _ _ (by omega), cVo _ _ _ (by omega), cVo _ _ _ (by omega), hμ3, cVof _ _ (by omega)]; exact c2
            · rw [mVn3, mVs12, mVs11, mVs10, m3]
            · refine none_o (fun z2 hz2 => ?_)
              rw [gF_1, gA_nk _ _ _ (by decide), gA_nk _ _ _ (by decide), gA_nk _ _ _ (by decide), hμ3, gF_1, p2]; exact k2 z2 hz2
            · exact Int.le_refl _
            · exact Int.le_refl _
            · show v.2 3 ≤ v.2 3 + 1; omega
        · refine Rt_neg (by rw [lcN3 h.1.1]; exact q3) (Rt_some ?_)
          unfold f_X12_drain
          exact Rt_lm (Rt_bde (noCell_y (lmN0 h1.1.2.1) (lim0 hv) q0) (Rt_pos rfl (Rt_bde (in_y q1) (Rt_neg (by decide) (Rt_bde (noEase_y q2) (Rt_pos rfl (Rt_pos (by rw [lmN3 h1.1.2.1]; omega) (ref_m h))))))))
      · refine Rt_bde (out_n q2) (Rt_neg (by decide) (Rt_some ?_))
        unfold f_X12_drain
        exact Rt_lm (Rt_bde (noCell_y (lmN0 h1.1.2.1) (lim0 hv) q0) (Rt_pos rfl (Rt_bde (in_y q1) (Rt_neg (by decide) (Rt_bde (noEase_n q2) (Rt_neg (by decide) (ref_m h)))))))
    · refine Rt_bde (out_n q1) (Rt_neg (by decide) (Rt_some ?_))
      unfold f_X12_drain
      exact Rt_lm (Rt_bde (noCell_y (lmN0 h1.1.2.1) (lim0 hv) q0) (Rt_pos rfl (Rt_bde (in_n q1) (Rt_pos rfl (ref_m h)))))
  · refine Rt_bde (hasCell_n (lcN0 h.1.1) q0) (Rt_pos rfl (Rt_some ?_))
    unfold f_X12_drain
    exact Rt_lm (Rt_bde (noCell_n (lmN0 h1.1.2.1) (lim0 hv) q0) (Rt_neg (by decide) (ref_m h)))
theorem ok_well {v : LV} {μ : GM} (h : InvV v μ) (z1 z2 z3 : Int) : PrOK (f_X11_well z1 z2 z3) (f_X12_well z1 z2 z3) μ := by
  have hv := h.1.2.2.1
  have l0 := hv.1
  have l1 := hv.2.1
  have l2 := hv.2.2.1
  have l3 := hv.2.2.2.1
  have l4 := hv.2.2.2.2.1
  obtain ⟨h1, s1⟩ := inv_thr h
  unfold PrOK f_X11_well
  by_cases q0 : 0 ≤ z1 ∧ z1 < v.2 0
  · refine Rt_bde (hasCell_y (lcN0 h.1.1) q0) (Rt_neg (by decide) ?_)
    by_cases q1 : 0 ≤ z2 ∧ z2 ≤ 99
    · refine Rt_bde (out_y q1) (Rt_pos rfl ?_)
      by_cases q2 : 0 ≤ z3 ∧ z3 ≤ 99
      · refine Rt_bde (out_y q2) (Rt_pos rfl ?_)
        by_cases q3 : v.2 4 < 3
        · refine Rt_pos (by rw [lcN4 h.1.1]; exact q3) ?_
          obtain ⟨μ1, hμ1⟩ : ∃ μ1, μ1 = μ := ⟨_, rfl⟩
          rw [← hμ1]
          have k1 : ofr (fun k => k = 95) nF μ μ1 := hμ1 ▸ ofr.rfl
          obtain ⟨e1, e2⟩ := kC h k1
          refine Rt_bde (awell_eq z1 z2 z3 (lcN4 e1) (by omega)) (Rt_some ?_)
          obtain ⟨μ2, hμ2⟩ : ∃ μ2, μ2 = gF (gA (gA (gA μ1 19 (v.2 4) z1) 20 (v.2 4) z2) 21 (v.2 4) z3) 18 0 (v.2 4 + 1) := ⟨_, rfl⟩
          rw [← hμ2]
          have c2 : cV 22 μ2 = (setN (setA (setA (setA v 13 (v.2 4) z1) 14 (v.2 4) z2) 15 (v.2 4) z3) 4 (v.2 4 + 1)) := by
            rw [hμ2, cVn4, cVs15, cVs14, cVs13, e1]
          have m2 : mV 59 70 μ2 = v := by
            rw [hμ2, mVof _ _ (by omega), mVo _ _ _ (by omega), mVo _ _ _ (by omega), mVo _ _ _ (by omega), e2]
          have o2 : ofr PLd FLd μ μ2 := by
            rw [hμ2]
            exact ((((kL95 k1).a (show PLd 19 by unfold PLd; omega)).a (show PLd 20 by unfold PLd; omega)).a (show PLd 21 by unfold PLd; omega)).f (show FLd 18 0 by unfold FLd; omega)
          have p2 : μ2.1 95 = μ1.1 95 := by
            rw [hμ2, gF_1, gA_nk _ _ _ (by decide), gA_nk _ _ _ (by decide), gA_nk _ _ _ (by decide)]
          have c94 : cacheOK v 94 μ2 := by
            refine cache_keep h.2.1.2.1 (by rw [show (94 : Nat) + 1 = 95 from rfl, p2, hμ1]) ?_ (fun z _ => ?_)
            · exact o2.1 _ (by unfold PLd; omega)
            · exact o2.1 _ (by unfold PLd; omega)
          unfold f_X12_well
          refine Rt_lm ?_
          obtain ⟨μ3, hμ3⟩ : ∃ μ3, μ3 = gF μ2 53 0 0 := ⟨_, rfl⟩
          rw [← hμ3]
          have m3 : mV 59 70 μ3 = v := by rw [hμ3, mVo0]; exact m2
          refine Rt_bde (noCell_y (lmN0 m3) (lim0 hv) q0) (Rt_pos rfl (Rt_bde (in_y q1) (Rt_neg (by decide) (Rt_bde (in_y q2) (Rt_neg (by decide) (Rt_neg (by rw [lmN4 m3]; omega) (?_)))))))
          unfold lm
          simp only [gA_2, lmN4 m3]
          refine Rt_ck (by omega) (Rt_ck (by omega) (Rt_ck (by omega) (?_)))
          rw [w32i (x := v.2 4 + 1) (by omega) (by omega)]
          refine Rt_some ⟨?_, (setN (setA (setA (setA v 13 (v.2 4) z1) 14 (v.2 4) z2) 15 (v.2 4) z3) 4 (v.2 4 + 1)), ?_⟩
          · rw [gF_same, w32i (by omega) (by omega)]; omega
          · have o3 : ofr PLd FLd μ μ3 := by rw [hμ3]; exact o2.f (show FLd 53 0 by unfold FLd; omega)
            have o4 : ofr PLd FLd μ (gF (gA (gA (gA μ3 67 (v.2 4) z1) 68 (v.2 4) z2) 69 (v.2 4) z3) 53 18 (v.2 4 + 1)) := (((o3.a (show PLd 67 by unfold PLd; omega)).a (show PLd 68 by unfold PLd; omega)).a (show PLd 69 by unfold PLd; omega)).f (show FLd 53 18 by unfold FLd; omega)
            refine mkInv h o4 ?_ ?_ (wf_well hv h.1.2.2.2 q3 q0 q1 q2).1 (wf_well hv h.1.2.2.2 q3 q0 q1 q2).2 ?_ ?_ ?_ ?_
            · rw [cVof _ _ (by omega), cVo _ _ _ (by omega), cVo _ _ _ (by omega), cVo _ _ _ (by omega), hμ3, cVof _ _ (by omega)]; exact c2
            · rw [mVn4, mVs15, mVs14, mVs13, m3]
            · refine cache_mat (v := v) (fun p => rfl) rfl ?_
              refine cache_keep c94 ?_ ?_ (fun z _ => ?_)
              · rw [gF_1, gA_nk _ _ _ (by omega), gA_nk _ _ _ (by omega), gA_nk _ _ _ (by omega), hμ3, gF_1]
              · rw [gF_1, gA_nk _ _ _ (by omega), gA_nk _ _ _ (by omega), gA_nk _ _ _ (by omega), hμ3, gF_1]
              · rw [gF_1, gA_nk _ _ _ (by omega), gA_nk _ _ _ (by omega), gA_nk _ _ _ (by omega), hμ3, gF_1]
            · exact Int.le_refl _
            · exact Int.le_refl _
            · exact Int.le_refl _
        · refine Rt_neg (by rw [lcN4 h.1.1]; exact q3) (Rt_some ?_)
          unfold f_X12_well
          exact Rt_lm (Rt_bde (noCell_y (lmN0 h1.1.2.1) (lim0 hv) q0) (Rt_pos rfl (Rt_bde (in_y q1) (Rt_neg (by decide) (Rt_bde (in_y q2) (Rt_neg (by decide) (Rt_pos (by rw [lmN4 h1.1.2.1]; omega) (ref_m h))))))))
      · refine Rt_bde (out_n q2) (Rt_neg (by decide) (Rt_some ?_))
        unfold f_X12_well
        exact Rt_lm (Rt_bde (noCell_y (lmN0 h1.1.2.1) (lim0 hv) q0) (Rt_pos rfl (Rt_bde (in_y q1) (Rt_neg (by decide) (Rt_bde (in_n q2) (Rt_pos rfl (ref_m h)))))))
    · refine Rt_bde (out_n q1) (Rt_neg (by decide) (Rt_some ?_))
      unfold f_X12_well
      exact Rt_lm (Rt_bde (noCell_y (lmN0 h1.1.2.1) (lim0 hv) q0) (Rt_pos rfl (Rt_bde (in_n q1) (Rt_pos rfl (ref_m h)))))
  · refine Rt_bde (hasCell_n (lcN0 h.1.1) q0) (Rt_pos rfl (Rt_some ?_))
    unfold f_X12_well
    exact Rt_lm (Rt_bde (noCell_n (lmN0 h1.1.2.1) (lim0 hv) q0) (Rt_neg (by decide) (ref_m h)))
