/-! harm -/
theorem MWp_ex (v : LV) (m : Int) (c : Nat) : ∃ r, MWp v m c r := by
  by_cases q : hasR (wrt v (fm v m))
  · exact ⟨_, fun _ => rfl, fun z => absurd q z⟩
  · exact ⟨_, fun z => absurd z q, fun _ => rfl⟩
theorem MWp_co {v : LV} (hv : wfL v) {m m2 : Int} {c : Nat} {r : Int} (e : ∀ w : Nat, w < nn v 4 → fm v m w = fm v m2 w) (h : MWp v m c r) : MWp v m2 c r := by
  have q := veq_wrt e
  have hh : hasR (wrt v (fm v m2)) = hasR (wrt v (fm v m)) := veq_hasR q
  refine ⟨fun z => ?_, fun z => h.2 (by rw [← hh]; exact z)⟩
  have z1 : hasR (wrt v (fm v m)) := by rw [← hh]; exact z
  rw [h.1 z1]
  obtain ⟨_, p, hp, hr⟩ := z1
  have hp2 : okp (wrt v (fm v m2)) p := by rw [veq_okp q]; exact hp
  have hr2 : isR (wrt v (fm v m2)) p := by rw [veq_isR q]; exact hr
  unfold wM
  have t1 := thP_eq (fm_wf hv m) hp hr
  have t2 := thP_eq (fm_wf hv m2) hp2 hr2
  rw [← t1, ← t2, veq_up q p, veq_det q p]
theorem ok_harm {v : LV} {μ : GM} (h : InvV v μ) (z : Int) : PrOK (f_X11_harm z) (f_X12_harm z) μ := by
  have hv := h.1.2.2.1
  have n0 := nn_c hv 0 (by omega)
  have l0 := hv.1
  have w4 := hv.2.2.2.2.1
  by_cases q : 0 ≤ z ∧ z < v.2 0
  · obtain ⟨c, hc⟩ : ∃ c : Nat, z = c := ⟨z.toNat, by omega⟩
    subst hc
    have hcn : c < nn v 0 := by omega
    obtain ⟨a, ha⟩ := MWp_ex v 0 c
    obtain ⟨b, hb⟩ := MWp_ex v 7 c
    refine q_ok h (if a = -10000003 then -10000003 else if b = -10000003 then -10000003 else w32 (a - b)) (fun μ h => ?_) (fun μ h => ?_)
    · unfold f_X11_harm f_X5_harmAt
      refine Rt_bde (hasCell_y (lcN0 h.1.1) q) (Rt_neg (by decide) (Rt_bd (P := fun r s => r = (if a = -10000003 then -10000003 else if b = -10000003 then -10000003 else w32 (a - b)) ∧ ScOK v μ s) ?_ (fun r s e => Rt_some e)))
      refine Rt_bd (cMW h 0 hcn) (fun r1 s1 ⟨m1, sc1⟩ => ?_)
      have i1 := h.sc sc1
      refine Rt_bd (cMW i1 _ hcn) (fun r2 s2 ⟨m2, sc2⟩ => ?_)
      rw [lcN4 i1.1.1] at m2
      have m3 : MWp v 7 c r2 := by
        refine MWp_co hv (fun w hw => ?_) m2
        have n4 := nn_c hv 4 (by omega)
        unfold fm
        have e1 : gand (gshr (w32 (gshl 1 (v.2 4) - 1)) w) 1 = 1 := by
          rcases (show v.2 4 = 1 ∧ w = 0 ∨ v.2 4 = 2 ∧ w = 0 ∨ v.2 4 = 2 ∧ w = 1 ∨ v.2 4 = 3 ∧ w = 0 ∨ v.2 4 = 3 ∧ w = 1 ∨ v.2 4 = 3 ∧ w = 2 by omega) with ⟨x, y⟩ | ⟨x, y⟩ | ⟨x, y⟩ | ⟨x, y⟩ | ⟨x, y⟩ | ⟨x, y⟩ <;> (rw [x, y]; decide +kernel)
        have e2 : gand (gshr 7 w) 1 = 1 := by
          rcases (show w = 0 ∨ w = 1 ∨ w = 2 by omega) with y | y | y <;> (rw [y]; decide +kernel)
        rw [if_pos e1, if_pos e2]
      have e1 := MWp_eq ha m1
      have e2 := MWp_eq hb m3
      rw [e1, e2]
      refine Rt_if (fun c => Rt_some ⟨by rw [if_pos c], sc1.trans sc2⟩) (fun c => Rt_if (fun c2 => Rt_some ⟨by rw [if_neg c, if_pos c2], sc1.trans sc2⟩) (fun c2 => Rt_some ⟨by rw [if_neg c, if_neg c2], sc1.trans sc2⟩))
    · obtain ⟨h1, s1⟩ := inv_thr h
      unfold f_X12_harm
      refine Rt_lm (Rt_bde (noCell_y (lmN0 h1.1.2.1) (lim0 hv) q) (Rt_pos rfl ?_))
      refine Rt_bd (mMW h1 0 hcn) (fun r1 s1' ⟨m1, sc1⟩ => ?_)
      have i1 := h1.sc sc1
      refine Rt_bd (mMW i1 7 hcn) (fun r2 s2 ⟨m2, sc2⟩ => ?_)
      have e1 := MWp_eq ha m1
      have e2 := MWp_eq hb m2
      have sc := s1.trans (sc1.trans sc2)
      rw [e1, e2]
      refine Rt_if (fun c => Rt_some ⟨by rw [if_pos c], sc⟩) (fun c => Rt_if (fun c2 => Rt_some ⟨by rw [if_neg c, if_pos c2], sc⟩) (fun c2 => Rt_some ⟨by rw [if_neg c, if_neg c2], sc⟩))
  · refine q_ok h (-10000001) (fun μ h => ?_) (fun μ h => ?_)
    · unfold f_X11_harm
      exact Rt_bde (hasCell_n (lcN0 h.1.1) q) (Rt_pos rfl (Rt_some ⟨rfl, ScOK.refl h⟩))
    · obtain ⟨h1, s1⟩ := inv_thr h
      unfold f_X12_harm
      exact Rt_lm (Rt_bde (noCell_n (lmN0 h1.1.2.1) (lim0 hv) q) (Rt_neg (by decide) (Rt_some ⟨rfl, s1⟩)))
