/-! calls beside the land -/
def POt : Nat → Prop := fun k => 23 ≤ k ∧ k < 94 ∧ ¬ (54 ≤ k ∧ k ≤ 70)
def FOt : Nat → Nat → Prop := fun k j => k = 23 ∨ k = 31 ∨ k = 42 ∨ (k = 53 ∧ j ≠ 1 ∧ j ≠ 5 ∧ j ≠ 9 ∧ j ≠ 14 ∧ j ≠ 18)
theorem mkO {v : LV} {μ ν : GM} (h : InvV v μ) (o : ofr POt FOt μ ν) (c : CI ν) (w : WI v ν) (s : SI ν) (p : PI ν) (q : QI ν) : InvV v ν := by
  obtain ⟨⟨a1, a2, a3, a4⟩, ⟨b1, b2, b3⟩, ⟨c1, c2⟩, -⟩ := h
  refine ⟨⟨?_, ?_, a3, a4⟩, ⟨?_, ?_, ?_⟩, ⟨?_, ?_⟩, c, w, s, p, q⟩
  · exact (cV_keep o (fun k hk => by unfold POt; omega) (fun k j hk => by unfold FOt; omega) (by unfold POt; omega)).trans a1
  · refine Eq.trans ?_ a2
    refine lv_ext (fun j => ?_) (fun j => ?_)
    · unfold mV
      match j with
      | 0 => exact o.1 54 (by unfold POt; omega)
      | 1 => exact o.1 55 (by unfold POt; omega)
      | 2 => exact o.1 56 (by unfold POt; omega)
      | 3 => exact o.1 57 (by unfold POt; omega)
      | 4 => exact o.1 58 (by unfold POt; omega)
      | 5 => exact o.1 59 (by unfold POt; omega)
      | 6 => exact o.1 60 (by unfold POt; omega)
      | 7 => exact o.1 61 (by unfold POt; omega)
      | 8 => exact o.1 62 (by unfold POt; omega)
      | 9 => exact o.1 63 (by unfold POt; omega)
      | 10 => exact o.1 64 (by unfold POt; omega)
      | 11 => exact o.1 65 (by unfold POt; omega)
      | 12 => exact o.1 66 (by unfold POt; omega)
      | 13 => exact o.1 67 (by unfold POt; omega)
      | 14 => exact o.1 68 (by unfold POt; omega)
      | 15 => exact o.1 69 (by unfold POt; omega)
      | j + 16 => exact o.1 70 (by unfold POt; omega)
    · unfold mV
      match j with
      | 0 => exact o.2 53 1 (by unfold FOt; omega)
      | 1 => exact o.2 53 5 (by unfold FOt; omega)
      | 2 => exact o.2 53 9 (by unfold FOt; omega)
      | 3 => exact o.2 53 14 (by unfold FOt; omega)
      | j + 4 => exact o.2 53 18 (by unfold FOt; omega)
  · rw [o.2 94 1 (by unfold FOt; omega)]; exact b1
  · exact cache_keep b2 (o.1 _ (by unfold POt; omega)) (o.1 _ (by unfold POt; omega)) (fun z _ => o.1 _ (by unfold POt; omega))
  · rw [o.2 94 8 (by unfold FOt; omega)]; exact b3
  · rw [o.2 132 1 (by unfold FOt; omega)]; exact c1
  · rw [o.2 132 8 (by unfold FOt; omega)]; exact c2
theorem CI_k {μ ν : GM} (h : CI μ) (a : ν.1 28 = μ.1 28) (b : ν.1 29 = μ.1 29) (c : ν.1 79 = μ.1 79) (d : ν.1 81 = μ.1 81) : CI ν := by unfold CI; rw [a, b, c, d]; exact h
theorem WI_k {v : LV} {μ ν : GM} (h : WI v μ) (a : ν.2 31 2 = μ.2 31 2) (b : ν.2 53 37 = μ.2 53 37) (c : ν.1 32 = μ.1 32) (d : ν.1 33 = μ.1 33) (e : ν.1 82 = μ.1 82) (f : ν.1 83 = μ.1 83) : WI v ν := by unfold WI; rw [a, b, c, d, e, f]; exact h
theorem SI_k {μ ν : GM} (h : SI μ) (a : ν.1 34 = μ.1 34) (b : ν.1 35 = μ.1 35) (c : ν.1 84 = μ.1 84) (d : ν.1 85 = μ.1 85) (e : ν.1 86 = μ.1 86) : SI ν := by unfold SI; rw [a, b, c, d, e]; exact h
theorem PI_k {μ ν : GM} (h : PI μ) (a : ν.2 42 2 = μ.2 42 2) (b : ν.2 53 44 = μ.2 53 44) (c : ν.1 43 = μ.1 43) (d : ν.1 88 = μ.1 88) : PI ν := by unfold PI; rw [a, b, c, d]; exact h
theorem QI_k {μ ν : GM} (h : QI μ) (a : ν.1 48 = μ.1 48) (b : ν.1 92 = μ.1 92) : QI ν := by unfold QI; rw [a, b]; exact h
theorem ok_cups {v : LV} {μ : GM} (h : InvV v μ) (z : Int) : PrOK (f_X11_cups z) (f_X12_cups z) μ := by
  have hv := h.1.2.2.1
  have l0 := hv.1
  obtain ⟨h1, s1⟩ := inv_thr h
  unfold PrOK f_X11_cups
  by_cases q : 0 ≤ z ∧ z < v.2 0
  · refine Rt_bde (hasCell_y (lcN0 h.1.1) q) (Rt_neg (by decide) (Rt_ck (by omega) (Rt_some ?_)))
    unfold f_X12_cups
    refine Rt_lm (Rt_bde (noCell_y (lmN0 h1.1.2.1) (lim0 hv) q) (Rt_pos rfl (Rt_ck (by omega) (Rt_some ⟨?_, v, h1⟩))))
    rw [gF_1, h.2.2.2.1.1]
  · refine Rt_bde (hasCell_n (lcN0 h.1.1) q) (Rt_pos rfl (Rt_some ?_))
    unfold f_X12_cups
    exact Rt_lm (Rt_bde (noCell_n (lmN0 h1.1.2.1) (lim0 hv) q) (Rt_neg (by decide) (ref_m h)))
def mkv (v : LV) (a : Int → Int) (c : Int) : Int := w32 (w32 (Int.tdiv (a c) (v.1 2 c)) + v.1 0 c)
theorem cmark_eq {v : LV} {μ : GM} (hv : wfL v) (hx : wfX v) (hc : cV 22 μ = v) {z : Int} (q : 0 ≤ z ∧ z < v.2 0) : f_X0_markOf z μ = some (mkv v (μ.1 28) z, μ) := by
  have l0 := hv.1
  have n0 := nn_c hv 0 (by omega)
  have b := hx.1 z.toNat (by omega)
  rw [show ((z.toNat : Nat) : Int) = z by omega] at b
  unfold f_X0_markOf lt
  rw [ck_pos (by omega), lcA2 hc, lcA0 hc]
  dsimp only
  rw [if_neg (by omega), ck_pos (by omega), ck_pos (by omega), ck_pos (by omega)]
  rfl
theorem mmark_eq {v : LV} {μ : GM} (hv : wfL v) (hx : wfX v) {e a : Nat} (hc : mV e a μ = v) {z : Int} (q : 0 ≤ z ∧ z < v.2 0) : f_X12_markOf z μ = some (mkv v (μ.1 79) z, μ) := by
  have l0 := hv.1
  have n0 := nn_c hv 0 (by omega)
  have b := hx.1 z.toNat (by omega)
  rw [show ((z.toNat : Nat) : Int) = z by omega] at b
  unfold f_X12_markOf
  rw [lmA2 hc, lmA0 hc, ck_pos (by omega), ck_pos (by omega), ck_pos (by omega), ck_pos (by omega)]
  rfl
theorem ok_mark {v : LV} {μ : GM} (h : InvV v μ) (z : Int) : PrOK (f_X11_mark z) (f_X12_mark z) μ := by
  have hv := h.1.2.2.1
  have l0 := hv.1
  obtain ⟨h1, s1⟩ := inv_thr h
  unfold PrOK f_X11_mark
  by_cases q : 0 ≤ z ∧ z < v.2 0
  · refine Rt_bde (hasCell_y (lcN0 h.1.1) q) (Rt_neg (by decide) (Rt_bde (cmark_eq hv h.1.2.2.2 h.1.1 q) (Rt_some ?_)))
    unfold f_X12_mark
    refine Rt_lm (Rt_bde (noCell_y (lmN0 h1.1.2.1) (lim0 hv) q) (Rt_pos rfl (Rt_bde (mmark_eq hv h.1.2.2.2 h1.1.2.1 q) (Rt_some ⟨?_, v, h1⟩))))
    rw [gF_1, h.2.2.2.1.1]
  · refine Rt_bde (hasCell_n (lcN0 h.1.1) q) (Rt_pos rfl (Rt_some ?_))
    unfold f_X12_mark
    exact Rt_lm (Rt_bde (noCell_n (lmN0 h1.1.2.1) (lim0 hv) q) (Rt_neg (by decide) (ref_m h)))
theorem ok_book {v : LV} {μ : GM} (h : InvV v μ) (z : Int) : PrOK (f_X11_book z) (f_X12_book z) μ := by
  obtain ⟨h1, s1⟩ := inv_thr h
  unfold PrOK f_X11_book
  by_cases q : 0 ≤ z ∧ z ≤ 5
  · refine Rt_bde (out_y q) (Rt_pos rfl (Rt_ck (by omega) (Rt_some ?_)))
    unfold f_X12_book
    refine Rt_lm (Rt_bde (in_y q) (Rt_neg (by decide) (Rt_ck (by omega) (Rt_some ⟨?_, v, h1⟩))))
    rw [gF_1, h.2.2.2.1.2.1]
  · refine Rt_bde (out_n q) (Rt_neg (by decide) (Rt_some ?_))
    unfold f_X12_book
    exact Rt_lm (Rt_bde (in_n q) (Rt_pos rfl (ref_m h)))
theorem ok_wipe {v : LV} {μ : GM} (h : InvV v μ) : PrOK f_X11_wipe f_X12_wipe μ := by
  unfold PrOK f_X11_wipe
  refine Rt_lt (Rt_lm (Rt_some ?_))
  unfold f_X12_wipe
  refine Rt_lm (Rt_lt (Rt_lm (Rt_some ⟨?_, v, ?_⟩)))
  · rw [gF_ne _ _ (by omega), gF_ne _ _ (by omega)]; exact h.2.2.2.2.2.2.1.1.symm
  · have o : ofr POt FOt μ (gF (gF (gF μ 42 2 0) 53 0 0) 53 44 0) := ((ofr.rfl.f (show FOt 42 2 by unfold FOt; omega)).f (show FOt 53 0 by unfold FOt; omega)).f (show FOt 53 44 by unfold FOt; omega)
    have h0 := h
    obtain ⟨-, -, -, c, w, s, p, q⟩ := h
    refine mkO h0 o (CI_k c rfl rfl rfl rfl) (WI_k w ?_ ?_ rfl rfl rfl rfl) (SI_k s rfl rfl rfl rfl rfl) ?_ (QI_k q rfl rfl)
    · rw [gF_ne _ _ (by omega), gF_ne _ _ (by omega), gF_ne _ _ (by omega)]
    · rw [gF_ne _ _ (by omega), gF_ne _ _ (by omega), gF_ne _ _ (by omega)]
    · have e1 : (gF (gF (gF μ 42 2 0) 53 0 0) 53 44 0).2 42 2 = 0 := by rw [gF_ne _ _ (by omega), gF_ne _ _ (by omega), gF_same]
      unfold PI
      rw [e1, gF_same]
      exact ⟨rfl, by omega, p.2.2.1, fun i hi => by omega⟩
