/-! questions about the rest: both sides answer alike -/
theorem ok_pattern {v : LV} {μ : GM} (h : InvV v μ) : PrOK f_X11_pattern f_X12_pattern μ := by
  obtain ⟨tot, tn, ty⟩ := rest_val h.1.2.2.1 (-10000009) (fun p => p)
  refine q_ok h tot (fun μ h => ?_) (fun μ h => ?_)
  · unfold f_X11_pattern
    exact cRest h _ tn ty (fun p h0 hp hr μ4 h4 ra => Rt_some ⟨ra.2.2.2.2.1, ScOK.refl h4⟩)
  · unfold f_X12_pattern
    obtain ⟨h1, s1⟩ := inv_thr h
    refine Rt_lm ((mRest h1 _ tn ty (fun p h0 hp hr μ4 h4 ra hm => Rt_some ⟨ra.2.2.2.2.1, ScOK.refl h4⟩)).mono (fun r μ2 k => ⟨k.1, s1.trans k.2⟩))
/-- a cell is asked, then the rest -/
theorem cellq {f g : GM → Option (Int × GM)} {v : LV} {μ : GM} (h : InvV v μ) (z : Int) (val : Nat → Int → Int)
    (hf : ∀ μ, InvV v μ → ∀ tot, (0 ≤ z ∧ z < v.2 0 → (¬ hasR v → tot = -10000003) ∧ ∀ p, nn v 0 ≠ 0 → okp v p → isR v p → tot = val z.toNat p) → (¬ (0 ≤ z ∧ z < v.2 0) → tot = -10000001) → Rt (f μ) (VQ v μ tot))
    (hg : ∀ μ, InvV v μ → ∀ tot, (0 ≤ z ∧ z < v.2 0 → (¬ hasR v → tot = -10000003) ∧ ∀ p, nn v 0 ≠ 0 → okp v p → isR v p → tot = val z.toNat p) → (¬ (0 ≤ z ∧ z < v.2 0) → tot = -10000001) → Rt (g μ) (VQ v μ tot)) : PrOK f g μ := by
  by_cases q : 0 ≤ z ∧ z < v.2 0
  · obtain ⟨tot, tn, ty⟩ := rest_val h.1.2.2.1 (-10000003) (val z.toNat)
    exact q_ok h tot (fun μ h => hf μ h tot (fun _ => ⟨tn, ty⟩) (fun n => absurd q n)) (fun μ h => hg μ h tot (fun _ => ⟨tn, ty⟩) (fun n => absurd q n))
  · exact q_ok h (-10000001) (fun μ h => hf μ h _ (fun y => absurd y q) (fun _ => rfl)) (fun μ h => hg μ h _ (fun y => absurd y q) (fun _ => rfl))
theorem lim0 {v : LV} (hv : wfL v) : 0 ≤ v.2 0 ∧ v.2 0 ≤ 12 := by have := hv.1; omega
theorem ok_head {v : LV} {μ : GM} (h : InvV v μ) (z u : Int) : PrOK (f_X11_head z u) (f_X12_head z u) μ := by
  refine cellq h z (fun c p => tld (upv v p c) (detv v p) u) (fun μ h tot hy hn => ?_) (fun μ h tot hy hn => ?_)
  · have hv := h.1.2.2.1
    have n0 := nn_c hv 0 (by omega)
    have l0 := hv.1
    unfold f_X11_head
    by_cases q : 0 ≤ z ∧ z < v.2 0
    · refine Rt_bde (hasCell_y (lcN0 h.1.1) q) (Rt_neg (by decide) (cRest h _ (hy q).1 (hy q).2 (fun p h0 hp hr μ4 h4 ra => Rt_ck (by omega) ?_)))
      have a := up_range hv hr.1 (c := z.toNat) (by omega)
      have d := det_pos hv hr
      have e : μ4.1 99 z = upv v p z.toNat := by
        have := ra.2.2.2.2.2 z.toNat (by omega)
        rw [show ((z.toNat : Nat) : Int) = z by omega] at this
        exact this
      rw [e, ra.2.2.2.1]
      exact Rt_bde (least_eq u (by omega) (by omega) d.1 (by omega) μ4) (Rt_some ⟨rfl, ScOK.refl h4⟩)
    · rw [hn q]
      exact Rt_bde (hasCell_n (lcN0 h.1.1) q) (Rt_pos rfl (Rt_some ⟨rfl, ScOK.refl h⟩))
  · have hv := h.1.2.2.1
    have n0 := nn_c hv 0 (by omega)
    have l0 := hv.1
    obtain ⟨h1, s1⟩ := inv_thr h
    unfold f_X12_head
    refine Rt_lm ?_
    refine Rt.mono (P := VQ v (gF μ 53 0 0) tot) ?_ (fun r μ2 k => ⟨k.1, s1.trans k.2⟩)
    by_cases q : 0 ≤ z ∧ z < v.2 0
    · refine Rt_bde (noCell_y (lmN0 h1.1.2.1) (lim0 hv) q) (Rt_pos rfl (mRest h1 _ (hy q).1 (hy q).2 (fun p h0 hp hr μ4 h4 ra hm => Rt_ck (by omega) ?_)))
      have a := up_range hv hr.1 (c := z.toNat) (by omega)
      have d := det_pos hv hr
      have e : μ4.1 71 z = upv v p z.toNat := by
        have := ra.2.2.2.2.2 z.toNat (by omega)
        rw [show ((z.toNat : Nat) : Int) = z by omega] at this
        exact this
      rw [e, ra.2.2.2.1]
      exact Rt_bde (told_eq u (by omega) (by omega) d.1 (by omega) μ4) (Rt_some ⟨rfl, ScOK.refl h4⟩)
    · rw [hn q]
      exact Rt_bde (noCell_n (lmN0 h1.1.2.1) (lim0 hv) q) (Rt_neg (by decide) (Rt_some ⟨rfl, ScOK.refl h1⟩))
theorem chm_eq {v : LV} {t : Nat} {μ : GM} {p : Int} (hv : wfL v) (ra : restAt v t μ p) {c : Nat} (hc : c < nn v 0) : f_X6_headMilli t (c : Int) μ = some (mil (upv v p c) (detv v p), μ) := by
  have n0 := nn_c hv 0 (by omega)
  have l0 := hv.1
  have a := up_range hv ra.2.2.1.1 (c := c) (by omega)
  have d := det_pos hv ra.2.2.1
  unfold f_X6_headMilli
  rw [ck_pos (by omega), ra.2.2.2.1, ra.2.2.2.2.2 c hc, cmil_eq (by omega) (by omega) d.1 (by omega)]
  rfl
theorem ok_milli {v : LV} {μ : GM} (h : InvV v μ) (z : Int) : PrOK (f_X11_milli z) (f_X12_milli z) μ := by
  refine cellq h z (fun c p => mil (upv v p c) (detv v p)) (fun μ h tot hy hn => ?_) (fun μ h tot hy hn => ?_)
  · have hv := h.1.2.2.1
    have n0 := nn_c hv 0 (by omega)
    have l0 := hv.1
    unfold f_X11_milli
    by_cases q : 0 ≤ z ∧ z < v.2 0
    · refine Rt_bde (hasCell_y (lcN0 h.1.1) q) (Rt_neg (by decide) (cRest h _ (hy q).1 (hy q).2 (fun p h0 hp hr μ4 h4 ra => ?_)))
      have e := chm_eq hv ra (c := z.toNat) (by omega)
      rw [show ((z.toNat : Nat) : Int) = z by omega] at e
      exact Rt_bde e (Rt_some ⟨rfl, ScOK.refl h4⟩)
    · rw [hn q]
      exact Rt_bde (hasCell_n (lcN0 h.1.1) q) (Rt_pos rfl (Rt_some ⟨rfl, ScOK.refl h⟩))
  · have hv := h.1.2.2.1
    have n0 := nn_c hv 0 (by omega)
    have l0 := hv.1
    obtain ⟨h1, s1⟩ := inv_thr h
    unfold f_X12_milli
    refine Rt_lm ?_
    refine Rt.mono (P := VQ v (gF μ 53 0 0) tot) ?_ (fun r μ2 k => ⟨k.1, s1.trans k.2⟩)
    by_cases q : 0 ≤ z ∧ z < v.2 0
    · refine Rt_bde (noCell_y (lmN0 h1.1.2.1) (lim0 hv) q) (Rt_pos rfl (mRest h1 _ (hy q).1 (hy q).2 (fun p h0 hp hr μ4 h4 ra hm => Rt_ck (by omega) ?_)))
      have a := up_range hv hr.1 (c := z.toNat) (by omega)
      have d := det_pos hv hr
      have e : μ4.1 71 z = upv v p z.toNat := by
        have := ra.2.2.2.2.2 z.toNat (by omega)
        rw [show ((z.toNat : Nat) : Int) = z by omega] at this
        exact this
      rw [e]
      exact Rt_bde (mmil_eq (by omega) (by omega) d.1 (by omega) ra.2.2.2.1) (Rt_some ⟨rfl, ScOK.refl h4⟩)
    · rw [hn q]
      exact Rt_bde (noCell_n (lmN0 h1.1.2.1) (lim0 hv) q) (Rt_neg (by decide) (Rt_some ⟨rfl, ScOK.refl h1⟩))
theorem ok_salt {v : LV} {μ : GM} (h : InvV v μ) (z : Int) : PrOK (f_X11_salt z) (f_X12_salt z) μ := by
  refine cellq h z (fun c p => mil (-40 * upv v p c) (detv v p)) (fun μ h tot hy hn => ?_) (fun μ h tot hy hn => ?_)
  · have hv := h.1.2.2.1
    have n0 := nn_c hv 0 (by omega)
    have l0 := hv.1
    unfold f_X11_salt
    by_cases q : 0 ≤ z ∧ z < v.2 0
    · refine Rt_bde (hasCell_y (lcN0 h.1.1) q) (Rt_neg (by decide) (cRest h _ (hy q).1 (hy q).2 (fun p h0 hp hr μ4 h4 ra => Rt_ck (by omega) ?_)))
      have a := up_range hv hr.1 (c := z.toNat) (by omega)
      have d := det_pos hv hr
      have e : μ4.1 99 z = upv v p z.toNat := by
        have := ra.2.2.2.2.2 z.toNat (by omega)
        rw [show ((z.toNat : Nat) : Int) = z by omega] at this
        exact this
      rw [e, ra.2.2.2.1, w64i (x := -40 * upv v p z.toNat) (by omega) (by omega)]
      exact Rt_bde (cmil_eq (by omega) (by omega) d.1 (by omega) μ4) (Rt_some ⟨rfl, ScOK.refl h4⟩)
    · rw [hn q]
      exact Rt_bde (hasCell_n (lcN0 h.1.1) q) (Rt_pos rfl (Rt_some ⟨rfl, ScOK.refl h⟩))
  · have hv := h.1.2.2.1
    have n0 := nn_c hv 0 (by omega)
    have l0 := hv.1
    obtain ⟨h1, s1⟩ := inv_thr h
    unfold f_X12_salt
    refine Rt_lm ?_
    refine Rt.mono (P := VQ v (gF μ 53 0 0) tot) ?_ (fun r μ2 k => ⟨k.1, s1.trans k.2⟩)
    by_cases q : 0 ≤ z ∧ z < v.2 0
    · refine Rt_bde (noCell_y (lmN0 h1.1.2.1) (lim0 hv) q) (Rt_pos rfl (mRest h1 _ (hy q).1 (hy q).2 (fun p h0 hp hr μ4 h4 ra hm => Rt_ck (by omega) ?_)))
      have a := up_range hv hr.1 (c := z.toNat) (by omega)
      have d := det_pos hv hr
      have e : μ4.1 71 z = upv v p z.toNat := by
        have := ra.2.2.2.2.2 z.toNat (by omega)
        rw [show ((z.toNat : Nat) : Int) = z by omega] at this
        exact this
      rw [e, w64i (x := -40 * upv v p z.toNat) (by omega) (by omega)]
      exact Rt_bde (mmil_eq (by omega) (by omega) d.1 (by omega) ra.2.2.2.1) (Rt_some ⟨rfl, ScOK.refl h4⟩)
    · rw [hn q]
      exact Rt_bde (noCell_n (lmN0 h1.1.2.1) (lim0 hv) q) (Rt_neg (by decide) (Rt_some ⟨rfl, ScOK.refl h1⟩))
def dryv (v : LV) (p : Int) (c : Nat) : Int := if upv v p c < v.1 0 c * detv v p then 1 else 0
theorem botD {v : LV} (hx : wfX v) {c : Nat} (hc : c < nn v 0) {D : Int} (hD : 0 < D ∧ D ≤ 6780000000) : 0 ≤ v.1 0 c * D ∧ v.1 0 c * D ≤ 3390000000000 := by
  have a := hx.1 c hc
  have m := mul_mono (a := v.1 0 c) (b := 500) (c := D) (d := 6780000000) (by omega) (by omega) (by omega) (by omega)
  have m0 := Int.mul_nonneg (show 0 ≤ v.1 0 c by omega) (show 0 ≤ D by omega)
  omega
theorem cdry_eq {b : Nat} {v : LV} {μ : GM} {p : Int} (hv : wfL v) (hx : wfX v) (hc : cV b μ = v) (ra : restAt v 94 μ p) {c : Nat} (hcc : c < nn v 0) : f_X6_isDry 94 (c : Int) μ = some (dryv v p c, μ) := by
  have n0 := nn_c hv 0 (by omega)
  have l0 := hv.1
  have d := det_pos hv ra.2.2.1
  have bd := botD hx hcc d
  unfold f_X6_isDry dryv
  rw [ck_pos (by omega), ck_pos (by omega), ra.2.2.2.2.2 c hcc, lcA0 hc, ra.2.2.2.1, w64i (by omega) (by omega)]
  split <;> rfl
theorem mdry_eq {v : LV} {μ : GM} {p : Int} (hv : wfL v) (hx : wfX v) (hc : veq v (mV 72 73 μ)) (ra : restM v μ p) {c : Nat} (hcc : c < nn v 0) : f_X12_isDry (c : Int) μ = some (dryv v p c, μ) := by
  have n0 := nn_c hv 0 (by omega)
  have l0 := hv.1
  have d := det_pos hv ra.2.2.1
  have bd := botD hx hcc d
  have e0 : μ.1 54 = v.1 0 := (hc.1 0 (by omega) (by omega)).symm
  unfold f_X12_isDry dryv
  rw [ck_pos (by omega), ck_pos (by omega), ra.2.2.2.2.2 c hcc, e0, ra.2.2.2.1, w64i (by omega) (by omega)]
  split <;> rfl
theorem dry01 (v : LV) (p : Int) (c : Nat) : dryv v p c = 0 ∨ dryv v p c = 1 := by unfold dryv; split <;> omega
theorem ok_dry {v : LV} {μ : GM} (h : InvV v μ) (z : Int) : PrOK (f_X11_dry z) (f_X12_dry z) μ := by
  refine cellq h z (fun c p => dryv v p c) (fun μ h tot hy hn => ?_) (fun μ h tot hy hn => ?_)
  · have hv := h.1.2.2.1
    have n0 := nn_c hv 0 (by omega)
    have l0 := hv.1
    unfold f_X11_dry
    by_cases q : 0 ≤ z ∧ z < v.2 0
    · refine Rt_bde (hasCell_y (lcN0 h.1.1) q) (Rt_neg (by decide) (cRest h _ (hy q).1 (hy q).2 (fun p h0 hp hr μ4 h4 ra => ?_)))
      have e := cdry_eq hv h4.1.2.2.2 h4.1.1 ra (c := z.toNat) (by omega)
      rw [show ((z.toNat : Nat) : Int) = z by omega] at e
      refine Rt_bde e (Rt_if (fun q2 => Rt_some ⟨q2.symm, ScOK.refl h4⟩) (fun q2 => Rt_some ⟨?_, ScOK.refl h4⟩))
      have := dry01 v p z.toNat
      omega
    · rw [hn q]
      exact Rt_bde (hasCell_n (lcN0 h.1.1) q) (Rt_pos rfl (Rt_some ⟨rfl, ScOK.refl h⟩))
  · have hv := h.1.2.2.1
    have n0 := nn_c hv 0 (by omega)
    have l0 := hv.1
    obtain ⟨h1, s1⟩ := inv_thr h
    unfold f_X12_dry
    refine Rt_lm ?_
    refine Rt.mono (P := VQ v (gF μ 53 0 0) tot) ?_ (fun r μ2 k => ⟨k.1, s1.trans k.2⟩)
    by_cases q : 0 ≤ z ∧ z < v.2 0
    · refine Rt_bde (noCell_y (lmN0 h1.1.2.1) (lim0 hv) q) (Rt_pos rfl (mRest h1 _ (hy q).1 (hy q).2 (fun p h0 hp hr μ4 h4 ra hm => ?_)))
      have e := mdry_eq hv h4.1.2.2.2 hm ra (c := z.toNat) (by omega)
      rw [show ((z.toNat : Nat) : Int) = z by omega] at e
      refine Rt_bde e (Rt_if (fun q2 => Rt_some ⟨q2.symm, ScOK.refl h4⟩) (fun q2 => Rt_some ⟨?_, ScOK.refl h4⟩))
      have := dry01 v p z.toNat
      omega
    · rw [hn q]
      exact Rt_bde (noCell_n (lmN0 h1.1.2.1) (lim0 hv) q) (Rt_neg (by decide) (Rt_some ⟨rfl, ScOK.refl h1⟩))
/-- a thing of some kind is asked, then the rest -/
theorem thingq {f g : GM → Option (Int × GM)} {v : LV} {μ : GM} (h : InvV v μ) (z N : Int) (val : Nat → Int → Int)
    (hf : ∀ μ, InvV v μ → ∀ tot, (0 ≤ z ∧ z < N → (¬ hasR v → tot = -10000003) ∧ ∀ p, nn v 0 ≠ 0 → okp v p → isR v p → tot = val z.toNat p) → (¬ (0 ≤ z ∧ z < N) → tot = -10000001) → Rt (f μ) (VQ v μ tot))
    (hg : ∀ μ, InvV v μ → ∀ tot, (0 ≤ z ∧ z < N → (¬ hasR v → tot = -10000003) ∧ ∀ p, nn v 0 ≠ 0 → okp v p → isR v p → tot = val z.toNat p) → (¬ (0 ≤ z ∧ z < N) → tot = -10000001) → Rt (g μ) (VQ v μ tot)) : PrOK f g μ := by
  by_cases q : 0 ≤ z ∧ z < N
  · obtain ⟨tot, tn, ty⟩ := rest_val h.1.2.2.1 (-10000003) (val z.toNat)
    exact q_ok h tot (fun μ h => hf μ h tot (fun _ => ⟨tn, ty⟩) (fun n => absurd q n)) (fun μ h => hg μ h tot (fun _ => ⟨tn, ty⟩) (fun n => absurd q n))
  · exact q_ok h (-10000001) (fun μ h => hf μ h _ (fun y => absurd y q) (fun _ => rfl)) (fun μ h => hg μ h _ (fun y => absurd y q) (fun _ => rfl))
theorem ok_flow {v : LV} {μ : GM} (h : InvV v μ) (z : Int) : PrOK (f_X11_flow z) (f_X12_flow z) μ := by
  refine thingq h z (v.2 1) (fun l p => mil (flo v p l) (detv v p)) (fun μ h tot hy hn => ?_) (fun μ h tot hy hn => ?_)
  · have hv := h.1.2.2.1
    have n1 := nn_c hv 1 (by omega)
    unfold f_X11_flow
    by_cases q : 0 ≤ z ∧ z < v.2 1
    · refine Rt_bde (hasLink_y (lcN1 h.1.1) q) (Rt_neg (by decide) (cRest h _ (hy q).1 (hy q).2 (fun p h0 hp hr μ4 h4 ra => ?_)))
      have hl : z.toNat < nn v 1 := by omega
      have e := clink_eq hv h4.1.1 ra hl
      rw [show ((z.toNat : Nat) : Int) = z by omega] at e
      have fb := flo_b hv hr hl
      have d := det_pos hv hr
      refine Rt_bde e ?_
      rw [ra.2.2.2.1]
      exact Rt_bde (cmil_eq (by omega) (by omega) d.1 (by omega) μ4) (Rt_some ⟨rfl, ScOK.refl h4⟩)
    · rw [hn q]
      exact Rt_bde (hasLink_n (lcN1 h.1.1) q) (Rt_pos rfl (Rt_some ⟨rfl, ScOK.refl h⟩))
  · have hv := h.1.2.2.1
    have n1 := nn_c hv 1 (by omega)
    have l1 := hv.2.1
    obtain ⟨h1, s1⟩ := inv_thr h
    unfold f_X12_flow
    refine Rt_lm ?_
    refine Rt.mono (P := VQ v (gF μ 53 0 0) tot) ?_ (fun r μ2 k => ⟨k.1, s1.trans k.2⟩)
    rw [lmN1 h1.1.2.1, w32i (by omega) (by omega)]
    by_cases q : 0 ≤ z ∧ z < v.2 1
    · refine Rt_bde (in_y (by omega)) (Rt_neg (by decide) (mRest h1 _ (hy q).1 (hy q).2 (fun p h0 hp hr μ4 h4 ra hm => ?_)))
      have hl : z.toNat < nn v 1 := by omega
      have e := mlink_eq hv hm ra hl
      rw [show ((z.toNat : Nat) : Int) = z by omega] at e
      have fb := flo_b hv hr hl
      have d := det_pos hv hr
      exact Rt_bde e (Rt_bde (mmil_eq (by omega) (by omega) d.1 (by omega) ra.2.2.2.1) (Rt_some ⟨rfl, ScOK.refl h4⟩))
    · rw [hn q]
      exact Rt_bde (in_n (by omega)) (Rt_pos rfl (Rt_some ⟨rfl, ScOK.refl h1⟩))
theorem ok_gives {v : LV} {μ : GM} (h : InvV v μ) (z : Int) : PrOK (f_X11_gives z) (f_X12_gives z) μ := by
  refine thingq h z (v.2 2) (fun l p => mil (giv v p l) (detv v p)) (fun μ h tot hy hn => ?_) (fun μ h tot hy hn => ?_)
  · have hv := h.1.2.2.1
    have n1 := nn_c hv 2 (by omega)
    unfold f_X11_gives
    by_cases q : 0 ≤ z ∧ z < v.2 2
    · refine Rt_bde (hasRiver_y (lcN2 h.1.1) q) (Rt_neg (by decide) (cRest h _ (hy q).1 (hy q).2 (fun p h0 hp hr μ4 h4 ra => ?_)))
      have hl : z.toNat < nn v 2 := by omega
      have e := criver_eq hv h4.1.1 ra hl
      rw [show ((z.toNat : Nat) : Int) = z by omega] at e
      have fb := giv_b hv hr hl
      have d := det_pos hv hr
      refine Rt_bde e ?_
      rw [ra.2.2.2.1]
      exact Rt_bde (cmil_eq (by omega) (by omega) d.1 (by omega) μ4) (Rt_some ⟨rfl, ScOK.refl h4⟩)
    · rw [hn q]
      exact Rt_bde (hasRiver_n (lcN2 h.1.1) q) (Rt_pos rfl (Rt_some ⟨rfl, ScOK.refl h⟩))
  · have hv := h.1.2.2.1
    have n1 := nn_c hv 2 (by omega)
    have l1 := hv.2.2.1
    obtain ⟨h1, s1⟩ := inv_thr h
    unfold f_X12_gives
    refine Rt_lm ?_
    refine Rt.mono (P := VQ v (gF μ 53 0 0) tot) ?_ (fun r μ2 k => ⟨k.1, s1.trans k.2⟩)
    rw [lmN2 h1.1.2.1, w32i (by omega) (by omega)]
    by_cases q : 0 ≤ z ∧ z < v.2 2
    · refine Rt_bde (in_y (by omega)) (Rt_neg (by decide) (mRest h1 _ (hy q).1 (hy q).2 (fun p h0 hp hr μ4 h4 ra hm => ?_)))
      have hl : z.toNat < nn v 2 := by omega
      have e := mriver_eq hv hm ra hl
      rw [show ((z.toNat : Nat) : Int) = z by omega] at e
      have fb := giv_b hv hr hl
      have d := det_pos hv hr
      exact Rt_bde e (Rt_bde (mmil_eq (by omega) (by omega) d.1 (by omega) ra.2.2.2.1) (Rt_some ⟨rfl, ScOK.refl h4⟩))
    · rw [hn q]
      exact Rt_bde (in_n (by omega)) (Rt_pos rfl (Rt_some ⟨rfl, ScOK.refl h1⟩))
theorem ok_takes {v : LV} {μ : GM} (h : InvV v μ) (z : Int) : PrOK (f_X11_takes z) (f_X12_takes z) μ := by
  refine thingq h z (v.2 3) (fun l p => mil (tak v p l) (detv v p)) (fun μ h tot hy hn => ?_) (fun μ h tot hy hn => ?_)
  · have hv := h.1.2.2.1
    have n1 := nn_c hv 3 (by omega)
    unfold f_X11_takes
    by_cases q : 0 ≤ z ∧ z < v.2 3
    · refine Rt_bde (hasDrain_y (lcN3 h.1.1) q) (Rt_neg (by decide) (cRest h _ (hy q).1 (hy q).2 (fun p h0 hp hr μ4 h4 ra => ?_)))
      have hl : z.toNat < nn v 3 := by omega
      have e := cdrain_eq hv h4.1.1 ra hl
      rw [show ((z.toNat : Nat) : Int) = z by omega] at e
      have fb := tak_b hv hr hl
      have d := det_pos hv hr
      refine Rt_bde e ?_
      rw [ra.2.2.2.1]
      exact Rt_bde (cmil_eq (by omega) (by omega) d.1 (by omega) μ4) (Rt_some ⟨rfl, ScOK.refl h4⟩)
    · rw [hn q]
      exact Rt_bde (hasDrain_n (lcN3 h.1.1) q) (Rt_pos rfl (Rt_some ⟨rfl, ScOK.refl h⟩))
  · have hv := h.1.2.2.1
    have n1 := nn_c hv 3 (by omega)
    have l1 := hv.2.2.2.1
    obtain ⟨h1, s1⟩ := inv_thr h
    unfold f_X12_takes
    refine Rt_lm ?_
    refine Rt.mono (P := VQ v (gF μ 53 0 0) tot) ?_ (fun r μ2 k => ⟨k.1, s1.trans k.2⟩)
    rw [lmN3 h1.1.2.1, w32i (by omega) (by omega)]
    by_cases q : 0 ≤ z ∧ z < v.2 3
    · refine Rt_bde (in_y (by omega)) (Rt_neg (by decide) (mRest h1 _ (hy q).1 (hy q).2 (fun p h0 hp hr μ4 h4 ra hm => ?_)))
      have hl : z.toNat < nn v 3 := by omega
      have e := mdrain_eq hv hm ra hl
      rw [show ((z.toNat : Nat) : Int) = z by omega] at e
      have fb := tak_b hv hr hl
      have d := det_pos hv hr
      exact Rt_bde e (Rt_bde (mmil_eq (by omega) (by omega) d.1 (by omega) ra.2.2.2.1) (Rt_some ⟨rfl, ScOK.refl h4⟩))
    · rw [hn q]
      exact Rt_bde (in_n (by omega)) (Rt_pos rfl (Rt_some ⟨rfl, ScOK.refl h1⟩))
