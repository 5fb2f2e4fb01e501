/-! times -/
def oSm (o : OT) : Prop := ∀ i, i < o.1 → 0 < o.2.2 i ∧ o.2.2 i ≤ 800000000000000
theorem addO_sm {o : OT} (h : oSm o) {t f : Int} (hf : f ≤ 800000000000000) : oSm (addO o t f) := by
  unfold addO
  by_cases q : 0 < f
  · rw [if_pos q]
    intro i hi
    have hi2 : i < o.1 + 1 := hi
    show 0 < (if i = o.1 then f else o.2.2 i) ∧ (if i = o.1 then f else o.2.2 i) ≤ _
    by_cases e : i = o.1
    · rw [if_pos e]; exact ⟨q, hf⟩
    · rw [if_neg e]; exact h i (by omega)
  · rw [if_neg q]; exact h
theorem outs_sm {v : LV} (hv : wfL v) {p : Int} (hr : isR v p) (c : Int) : oSm (outs v p c) := by
  have d := det_pos hv hr
  have gL : ∀ z, z ≤ nn v 1 → oSm (oL v p c z) := by
    intro z
    induction z with
    | zero => intro _ i hi; exact absurd hi (by show ¬ i < 0; omega)
    | succ z ih =>
      intro hz
      have g := ih (by omega)
      have fb := flo_b hv hr (l := z) (by omega)
      unfold oL
      split
      · exact addO_sm g (by omega)
      · split
        · exact addO_sm g (by omega)
        · exact g
  have gR : ∀ z, z ≤ nn v 2 → oSm (oR v p c z) := by
    intro z
    induction z with
    | zero => intro _; exact gL _ (Nat.le_refl _)
    | succ z ih =>
      intro hz
      have fb := giv_b hv hr (r := z) (by omega)
      unfold oR
      split
      · exact addO_sm (ih (by omega)) (by omega)
      · exact ih (by omega)
  have gD : ∀ z, z ≤ nn v 3 → oSm (oD v p c z) := by
    intro z
    induction z with
    | zero => intro _; exact gR _ (Nat.le_refl _)
    | succ z ih =>
      intro hz
      have fb := tak_b hv hr (d := z) (by omega)
      unfold oD
      split
      · exact addO_sm (ih (by omega)) (by omega)
      · exact ih (by omega)
  have gW : ∀ z, z ≤ nn v 4 → oSm (oW v p c z) := by
    intro z
    induction z with
    | zero => intro _; exact gD _ (Nat.le_refl _)
    | succ z ih =>
      intro hz
      have h := hv.2.2.2.2.2.2.2.2.2 z (by omega)
      have m := mul_sm (a := v.1 16 z) (A := 99) (b := detv v p) (B := 6780000000) (by omega) (by omega) (by omega) (by omega)
      unfold oW
      split
      · exact addO_sm (ih (by omega)) (by omega)
      · exact ih (by omega)
  exact gW _ (Nat.le_refl _)
theorem tot_b {v : LV} (hv : wfL v) {p : Int} (hr : isR v p) (c : Int) : ∀ z, z ≤ (outs v p c).1 → 0 ≤ sumn z (outs v p c).2.2 ∧ sumn z (outs v p c).2.2 ≤ 16000000000000000 := by
  intro z hz
  have hl := outs_len hv p c
  have sm := outs_sm hv hr c
  have a := sumn_pb (f := (outs v p c).2.2) (b := 800000000000000) (by omega) (n := z) (fun i hi => by have := sm i (by omega); omega)
  have b : (z : Int) ≤ 20 := by omega
  have e := Int.mul_le_mul_of_nonneg_right b (show (0 : Int) ≤ 800000000000000 by omega)
  omega
theorem tot_pos {v : LV} (hv : wfL v) {p : Int} (hr : isR v p) (c : Int) (h : (outs v p c).1 ≠ 0) : 0 < sumn (outs v p c).1 (outs v p c).2.2 := by
  have sm := outs_sm hv hr c
  obtain ⟨k, hk⟩ : ∃ k, (outs v p c).1 = k + 1 := ⟨(outs v p c).1 - 1, by omega⟩
  have a := tot_b hv hr c k (by omega)
  have b := sm k (by omega)
  rw [hk]
  show 0 < sumn k _ + (outs v p c).2.2 k
  omega
theorem cft_eq {v : LV} (hv : wfL v) {μ : GM} {p : Int} (hr : isR v p) {c : Int} (h : cOut μ (outs v p c)) : Rt (f_X8_flowTogether μ) (fun r μ' => r = sumn (outs v p c).1 (outs v p c).2.2 ∧ μ' = μ) := by
  have hl := outs_len hv p c
  unfold f_X8_flowTogether
  refine Rt_loop (fun f z (q : Int × GM) => k_X8_flowTogether_4 f q.1 z q.2) _ (outs v p c).1 (fun z q => q.2 = μ ∧ q.1 = sumn z (outs v p c).2.2) ?_ ?_ FU 0 (0, μ) (by omega) (FU_gt (by omega)) ⟨rfl, rfl⟩
  · intro f z q hz ⟨e1, e2⟩ hnext
    obtain ⟨q1, q2⟩ := q
    have e1' : q2 = μ := e1
    have e2' : q1 = sumn z (outs v p c).2.2 := e2
    subst e1'; subst e2'
    show Rt (k_X8_flowTogether_4 (f + 1) _ (z : Int) q2) _
    rw [k_X8_flowTogether_4, h.1, (h.2 z hz).2]
    have b := tot_b hv hr c (z + 1) (by omega)
    have e : sumn (z + 1) (outs v p c).2.2 = sumn z (outs v p c).2.2 + (outs v p c).2.2 z := rfl
    refine Rt_pos (by omega) (Rt_ck (by omega) (Rt_lt (Rt_lt ?_)))
    rw [w32s (by omega), w64i (by omega) (by omega)]
    exact hnext (_, q2) ⟨rfl, rfl⟩
  · intro f q ⟨e1, e2⟩
    obtain ⟨q1, q2⟩ := q
    have e1' : q2 = μ := e1
    have e2' : q1 = sumn (outs v p c).1 (outs v p c).2.2 := e2
    subst e1'
    show Rt (k_X8_flowTogether_4 (f + 1) q1 ((outs v p c).1 : Int) q2) _
    rw [k_X8_flowTogether_4, h.1]
    exact Rt_neg (by omega) (Rt_some ⟨e2', rfl⟩)
theorem maf_eq {v : LV} (hv : wfL v) {μ : GM} {p : Int} (hr : isR v p) {c : Int} (h : mOut μ (outs v p c)) : Rt (f_X12_allFlow μ) (fun r μ' => r = sumn (outs v p c).1 (outs v p c).2.2 ∧ μ' = μ) := by
  have hl := outs_len hv p c
  unfold f_X12_allFlow
  refine Rt_loop (fun f z (q : Int × GM) => k_X12_allFlow_4 f q.1 z q.2) _ (outs v p c).1 (fun z q => q.2 = μ ∧ q.1 = sumn z (outs v p c).2.2) ?_ ?_ FU 0 (0, μ) (by omega) (FU_gt (by omega)) ⟨rfl, rfl⟩
  · intro f z q hz ⟨e1, e2⟩ hnext
    obtain ⟨q1, q2⟩ := q
    have e1' : q2 = μ := e1
    have e2' : q1 = sumn z (outs v p c).2.2 := e2
    subst e1'; subst e2'
    show Rt (k_X12_allFlow_4 (f + 1) _ (z : Int) q2) _
    rw [k_X12_allFlow_4, h.1, (h.2 z hz).2]
    have b := tot_b hv hr c (z + 1) (by omega)
    have e : sumn (z + 1) (outs v p c).2.2 = sumn z (outs v p c).2.2 + (outs v p c).2.2 z := rfl
    refine Rt_pos (by omega) (Rt_ck (by omega) (Rt_lt (Rt_lt ?_)))
    rw [w32s (by omega), w64i (by omega) (by omega)]
    exact hnext (_, q2) ⟨rfl, rfl⟩
  · intro f q ⟨e1, e2⟩
    obtain ⟨q1, q2⟩ := q
    have e1' : q2 = μ := e1
    have e2' : q1 = sumn (outs v p c).1 (outs v p c).2.2 := e2
    subst e1'
    show Rt (k_X12_allFlow_4 (f + 1) q1 ((outs v p c).1 : Int) q2) _
    rw [k_X12_allFlow_4, h.1]
    exact Rt_neg (by omega) (Rt_some ⟨e2', rfl⟩)
def wat (v : LV) (p : Int) (c : Nat) : Int := v.1 2 c * mx0 (upv v p c - v.1 0 c * detv v p)
theorem wat_b {v : LV} (hv : wfL v) (hx : wfX v) {p : Int} (hr : isR v p) {c : Nat} (hc : c < nn v 0) : 0 ≤ wat v p c ∧ wat v p c ≤ 400000000000000 := by
  have d := det_pos hv hr
  have bd := botD hx hc d
  have u := up_range hv hr.1 hc
  have s := (hx.1 c hc).2
  have m := mx0_b (x := upv v p c - v.1 0 c * detv v p) (b := 42889728600000) (by omega) (by omega)
  have a := mul_mono (a := v.1 2 c) (b := 9) s.2 m.2 m.1 (by omega)
  have b := Int.mul_nonneg (show 0 ≤ v.1 2 c by omega) m.1
  unfold wat
  omega
theorem cwat_eq {v : LV} (hv : wfL v) (hx : wfX v) {μ : GM} {p : Int} (hc : cV 22 μ = v) (ra : restAt v 94 μ p) {c : Nat} (hcc : c < nn v 0) : f_X8_waterTop (c : Int) μ = some (wat v p c, μ) := by
  have n0 := nn_c hv 0 (by omega)
  have l0 := hv.1
  have d := det_pos hv ra.2.2.1
  have bd := botD hx hcc d
  have u := up_range hv ra.2.2.1.1 hcc
  have w := wat_b hv hx ra.2.2.1 hcc
  have e99 : μ.1 99 (c : Int) = upv v p c := ra.2.2.2.2.2 c hcc
  have emax : f_J9_max_f86c9 0 (upv v p c - v.1 0 c * detv v p) μ = some (mx0 (upv v p c - v.1 0 c * detv v p), μ) := by
    unfold f_J9_max_f86c9 mx0; split <;> rfl
  unfold f_X8_waterTop
  rw [ck_pos (by omega), ck_pos (by omega), ck_pos (by omega), lcA0 hc, lcA2 hc, e99, ra.2.2.2.1, w64i (x := v.1 0 c * detv v p) (by omega) (by omega), w64i (x := upv v p c - v.1 0 c * detv v p) (by omega) (by omega), emax]
  unfold wat at w ⊢
  show some (w64 (v.1 2 c * mx0 (upv v p c - v.1 0 c * detv v p)), μ) = _
  rw [w64i (by omega) (by omega)]
theorem mwat_eq {v : LV} (hv : wfL v) (hx : wfX v) {μ : GM} {p : Int} (hc : veq v (mV 72 73 μ)) (hc2 : mV 59 70 μ = v) (ra : restM v μ p) {c : Nat} (hcc : c < nn v 0) : f_X12_waterOf (c : Int) μ = some (wat v p c, μ) := by
  have n0 := nn_c hv 0 (by omega)
  have l0 := hv.1
  have d := det_pos hv ra.2.2.1
  have bd := botD hx hcc d
  have u := up_range hv ra.2.2.1.1 hcc
  have w := wat_b hv hx ra.2.2.1 hcc
  unfold f_X12_waterOf
  rw [mdry_eq hv hx hc ra hcc]
  show (if dryv v p c = 0 then _ else _) = _
  unfold wat at w ⊢
  unfold dryv
  by_cases q : upv v p c < v.1 0 c * detv v p
  · rw [if_pos q, if_neg (by decide)]
    have e : mx0 (upv v p c - v.1 0 c * detv v p) = 0 := by unfold mx0; rw [if_neg (by omega)]
    rw [e, Int.mul_zero]
  · rw [if_neg q, if_pos rfl, ck_pos (by omega), ck_pos (by omega), ck_pos (by omega), lmA2 hc2, lmA0 hc2, ra.2.2.2.2.2 c hcc, ra.2.2.2.1, w64i (x := v.1 0 c * detv v p) (by omega) (by omega), w64i (x := upv v p c - v.1 0 c * detv v p) (by omega) (by omega)]
    have e : mx0 (upv v p c - v.1 0 c * detv v p) = upv v p c - v.1 0 c * detv v p := by unfold mx0; split <;> omega
    rw [e] at w ⊢
    rw [w64i (by omega) (by omega)]
def tmv (v : LV) (p c u : Int) : Int := if (outs v p c).1 = 0 then -10000009 else tld (wat v p c.toNat) (sumn (outs v p c).1 (outs v p c).2.2) u
theorem ok_time {v : LV} {μ : GM} (h : InvV v μ) (z u : Int) : PrOK (f_X11_time z u) (f_X12_time z u) μ := by
  by_cases q : 0 ≤ z ∧ z < v.2 0
  · obtain ⟨tot, tn, ty⟩ := rest_val h.1.2.2.1 (-10000003) (fun p => tmv v p z u)
    have hv := h.1.2.2.1
    have hx := h.1.2.2.2
    have n0 := nn_c hv 0 (by omega)
    have hzz : ((z.toNat : Nat) : Int) = z := by omega
    refine q_ok h tot (fun μ h => ?_) (fun μ h => ?_)
    · unfold f_X11_time
      refine Rt_bde (hasCell_y (lcN0 h.1.1) q) (Rt_neg (by decide) (cRest h _ tn ty (fun p h0 hp hr μ4 h4 ra => Rt_bd (gather_spec hv h4.1.1 ra z) (fun _ μ5 ⟨o5, g5⟩ => ?_))))
      obtain ⟨c5, r5⟩ := stepC hv h4.1.1 ra o5
      unfold tmv
      rw [g5.1]
      refine Rt_if (fun e => ?_) (fun e => ?_)
      · rw [if_pos (by omega)]; exact Rt_some ⟨rfl, scC h4 o5⟩
      · rw [if_neg (by omega)]
        have we := cwat_eq hv hx c5 r5 (c := z.toNat) (by omega)
        rw [hzz] at we
        have wb := wat_b hv hx hr (c := z.toNat) (by omega)
        have tb := tot_b hv hr z (outs v p z).1 (Nat.le_refl _)
        have tp := tot_pos hv hr z (by omega)
        refine Rt_bde we (Rt_bd (cft_eq hv hr g5) (fun r μ6 ⟨e1, e2⟩ => ?_))
        subst e1; subst e2
        exact Rt_bde (least_eq u (by omega) (by omega) tp (by omega) μ6) (Rt_some ⟨rfl, scC h4 o5⟩)
    · obtain ⟨h1, s1⟩ := inv_thr h
      unfold f_X12_time
      refine Rt_lm (Rt.mono (P := VQ v (gF μ 53 0 0) tot) ?_ (fun r μ2 k => ⟨k.1, s1.trans k.2⟩))
      refine Rt_bde (noCell_y (lmN0 h1.1.2.1) (lim0 hv) q) (Rt_pos rfl (mRest h1 _ tn ty (fun p h0 hp hr μ4 h4 ra hm => Rt_bd (open_spec hv hm h4.1.2.1 ra z) (fun _ μ5 ⟨o5, g5⟩ => ?_))))
      obtain ⟨c5, d5, r5⟩ := stepM hv hm h4.1.2.1 ra o5
      unfold tmv
      rw [g5.1]
      refine Rt_if (fun e => ?_) (fun e => ?_)
      · rw [if_pos (by omega)]; exact Rt_some ⟨rfl, scM h4 o5⟩
      · rw [if_neg (by omega)]
        have we := mwat_eq hv hx c5 d5 r5 (c := z.toNat) (by omega)
        rw [hzz] at we
        have wb := wat_b hv hx hr (c := z.toNat) (by omega)
        have tb := tot_b hv hr z (outs v p z).1 (Nat.le_refl _)
        have tp := tot_pos hv hr z (by omega)
        refine Rt_bde we (Rt_bd (maf_eq hv hr g5) (fun r μ6 ⟨e1, e2⟩ => ?_))
        subst e1; subst e2
        exact Rt_bde (told_eq u (by omega) (by omega) tp (by omega) μ6) (Rt_some ⟨rfl, scM h4 o5⟩)
  · refine q_ok h (-10000001) (fun μ h => ?_) (fun μ h => ?_)
    · unfold f_X11_time
      exact Rt_bde (hasCell_n (lcN0 h.1.1) q) (Rt_pos rfl (Rt_some ⟨rfl, ScOK.refl h⟩))
    · obtain ⟨h1, s1⟩ := inv_thr h
      unfold f_X12_time
      exact Rt_lm (Rt_bde (noCell_n (lmN0 h1.1.2.1) (lim0 h.1.2.2.1) q) (Rt_neg (by decide) (Rt_some ⟨rfl, s1⟩)))
def tm1 (v : LV) (p c : Int) : Int := if (outs v p c).1 = 0 then 0 else 1000 * wat v p c.toNat / sumn (outs v p c).1 (outs v p c).2.2
noncomputable def wtm (v : LV) (p c : Int) : Nat → Int
  | 0 => 0
  | z + 1 => if 0 ≤ itw v p c z ∧ itw v p c z < v.2 0 then w64 (wtm v p c z + tm1 v p (itw v p c z)) else wtm v p c z
theorem wtm_r (v : LV) (p c : Int) : ∀ z, r64 (wtm v p c z)
  | 0 => ⟨show (-9223372036854775808 : Int) ≤ 0 by decide, show (0 : Int) ≤ 9223372036854775807 by decide⟩
  | z + 1 => by
    unfold wtm
    split
    · exact r64_w _
    · exact wtm_r v p c z
theorem wtm_stay {v : LV} {p c : Int} {z : Nat} (h : ¬ isC v (itw v p c z)) : ∀ m, wtm v p c (z + m) = wtm v p c z
  | 0 => rfl
  | m + 1 => by
    have ih := wtm_stay h m
    have st := itw_stay h m
    show (if 0 ≤ itw v p c (z + m) ∧ itw v p c (z + m) < v.2 0 then _ else wtm v p c (z + m)) = _
    rw [st, if_neg h, ih]
theorem ok_wayTime {v : LV} {μ : GM} (h : InvV v μ) (z : Int) : PrOK (f_X11_wayTime z) (f_X12_wayTime z) μ := by
  by_cases q : 0 ≤ z ∧ z < v.2 0
  · obtain ⟨tot, tn, ty⟩ := rest_val h.1.2.2.1 (-10000003) (fun p => wtm v p z 6)
    have hv := h.1.2.2.1
    have hx := h.1.2.2.2
    have n0 := nn_c hv 0 (by omega)
    refine q_ok h tot (fun μ h => ?_) (fun μ h => ?_)
    · unfold f_X11_wayTime
      refine Rt_bde (hasCell_y (lcN0 h.1.1) q) (Rt_neg (by decide) (cRest h _ tn ty (fun p h0 hp hr μ4 h4 ra => ?_)))
      have main : Rt (f_X8_milliOfWay z μ4) (fun r μ' => r = wtm v p z 6 ∧ ofr PGc FGc μ4 μ') := by
        unfold f_X8_milliOfWay
        refine Rt_loop (fun f k (s : Int × Int × GM) => k_X8_milliOfWay_8 f s.1 s.2.1 k s.2.2) _ 6 (fun k s => s.1 = wtm v p z k ∧ s.2.1 = itw v p z k ∧ ofr PGc FGc μ4 s.2.2) ?_ ?_ FU 0 (0, z, μ4) (by omega) (FU_gt (by omega)) ⟨rfl, rfl, ofr.rfl⟩
        · intro f k s hk ⟨e0, e, o⟩ hnext
          obtain ⟨w, x, s⟩ := s
          have e0' : w = wtm v p z k := e0
          have e' : x = itw v p z k := e
          have c1 := stepC hv h4.1.1 ra o
          show Rt (k_X8_milliOfWay_8 (f + 1) w x (k : Int) s) _
          rw [k_X8_milliOfWay_8, e', e0']
          refine Rt_pos (by omega) ?_
          by_cases qx : isC v (itw v p z k)
          · refine Rt_bde (hasCell_y (lcN0 c1.1) qx) (Rt_neg (by decide) (Rt_bd (onward_spec hv c1.1 c1.2 _) (fun r μ2 ⟨e1, e2, e3⟩ => ?_)))
            have c2 := stepC hv c1.1 c1.2 e2
            have hl := outs_len hv p (itw v p z k)
            have nxt : wtm v p z (k + 1) = w64 (wtm v p z k + tm1 v p (itw v p z k)) := by
              show (if _ then _ else _) = _
              rw [if_pos qx]
            rw [e3.1]
            refine Rt_if (fun g => ?_) (fun g => Rt_lt ?_)
            · have xc : (((itw v p z k).toNat : Nat) : Int) = itw v p z k := by have := qx.1; omega
              have we := cwat_eq hv hx c2.1 c2.2 (c := (itw v p z k).toNat) (by have := qx.1; have := qx.2; omega)
              rw [xc] at we
              have wb := wat_b hv hx hr (c := (itw v p z k).toNat) (by have := qx.1; have := qx.2; omega)
              have tb := tot_b hv hr (itw v p z k) _ (Nat.le_refl _)
              have tp := tot_pos hv hr (itw v p z k) (by omega)
              refine Rt_bde we (Rt_bd (cft_eq hv hr e3) (fun r6 μ6 ⟨f1, f2⟩ => ?_))
              subst f1; subst f2
              refine Rt_bde (clmil_eq (by omega) (by omega) tp (by omega) μ6) (Rt_lt (Rt_lt ?_))
              rw [w32s (by omega)]
              refine hnext (w64 (wtm v p z k + 1000 * wat v p (itw v p z k).toNat / sumn (outs v p (itw v p z k)).1 (outs v p (itw v p z k)).2.2), r, μ6) ⟨?_, by rw [e1]; exact (itw_cell qx).symm, o.trans e2⟩
              show w64 (wtm v p z k + 1000 * wat v p (itw v p z k).toNat / sumn (outs v p (itw v p z k)).1 (outs v p (itw v p z k)).2.2) = wtm v p z (k + 1)
              rw [nxt]
              unfold tm1
              rw [if_neg (by omega)]
            · rw [w32s (by omega)]
              refine hnext (wtm v p z k, r, μ2) ⟨?_, by rw [e1]; exact (itw_cell qx).symm, o.trans e2⟩
              show wtm v p z k = wtm v p z (k + 1)
              rw [nxt]
              unfold tm1
              rw [if_pos (by omega), Int.add_zero, w64_id (wtm_r v p z k)]
          · refine Rt_bde (hasCell_n (lcN0 c1.1) qx) (Rt_pos rfl (Rt_some ⟨?_, o⟩))
            have := wtm_stay qx (6 - k)
            rw [show k + (6 - k) = 6 by omega] at this
            exact this.symm
        · intro f s ⟨e0, e, o⟩
          obtain ⟨w, x, s⟩ := s
          show Rt (k_X8_milliOfWay_8 (f + 1) w x ((6 : Nat) : Int) s) _
          rw [k_X8_milliOfWay_8]
          exact Rt_neg (by omega) (Rt_some ⟨e0, o⟩)
      exact Rt_bd main (fun r μ5 ⟨e1, e2⟩ => Rt_some ⟨e1, scC h4 e2⟩)
    · obtain ⟨h1, s1⟩ := inv_thr h
      unfold f_X12_wayTime
      refine Rt_lm (Rt.mono (P := VQ v (gF μ 53 0 0) tot) ?_ (fun r μ2 k => ⟨k.1, s1.trans k.2⟩))
      refine Rt_bde (noCell_y (lmN0 h1.1.2.1) (lim0 hv) q) (Rt_pos rfl (mRest h1 _ tn ty (fun p h0 hp hr μ4 h4 ra hm => ?_)))
      refine Rt.mono (P := fun r μ' => r = wtm v p z 6 ∧ ofr PGm FGm μ4 μ') ?_ (fun r μ5 k => ⟨k.1, scM h4 k.2⟩)
      refine Rt_loop (fun f (_ : Int) (s : Int × Int × GM) => k_X12_wayTime_33 f s.1 s.2.1 s.2.2) _ 6 (fun k s => s.1 = wtm v p z k ∧ s.2.1 = itw v p z k ∧ ofr PGm FGm μ4 s.2.2) ?_ ?_ FU 0 (0, z, μ4) (by omega) (FU_gt (by omega)) ⟨rfl, rfl, ofr.rfl⟩
      · intro f k s hk ⟨e0, e, o⟩ hnext
        obtain ⟨w, x, s⟩ := s
        have e0' : w = wtm v p z k := e0
        have e' : x = itw v p z k := e
        obtain ⟨c1, c2, c3⟩ := stepM hv hm h4.1.2.1 ra o
        have oi := okC_in hv (itw_ok hv q (p := p) k)
        show Rt (k_X12_wayTime_33 (f + 1) w x s) _
        rw [k_X12_wayTime_33, e', e0']
        by_cases qx : isC v (itw v p z k)
        · refine Rt_bde (in_y (oi.mpr qx)) (Rt_neg (by decide) (Rt_bd (open_spec hv c1 c2 c3 _) (fun _ μ2 ⟨o2, g2⟩ => ?_)))
          obtain ⟨d1, d2, d3⟩ := stepM hv c1 c2 c3 o2
          have hl := outs_len hv p (itw v p z k)
          have nxt : wtm v p z (k + 1) = w64 (wtm v p z k + tm1 v p (itw v p z k)) := by
            show (if _ then _ else _) = _
            rw [if_pos qx]
          have go : Rt (k_X12_wayTime_81 (k_X12_wayTime_33 f) (itw v p z k) (wtm v p z k) (tm1 v p (itw v p z k)) μ2) (fun r μ' => r = wtm v p z 6 ∧ ofr PGm FGm μ4 μ') := by
            unfold k_X12_wayTime_81
            refine Rt_lt (Rt_bd (nextOf_spec hv d1 d2 d3 _) (fun r μ3 ⟨e1, e2, _⟩ => ?_))
            exact hnext (_, r, μ3) ⟨nxt.symm, by rw [e1]; exact (itw_cell qx).symm, (o.trans o2).trans e2⟩
          rw [g2.1]
          refine Rt_if (fun g => ?_) (fun g => ?_)
          · have e1 : tm1 v p (itw v p z k) = 0 := by unfold tm1; rw [if_pos (by omega)]
            rw [e1] at go
            exact go
          · have xc : (((itw v p z k).toNat : Nat) : Int) = itw v p z k := by have := qx.1; omega
            have we := mwat_eq hv hx d1 d2 d3 (c := (itw v p z k).toNat) (by have := qx.1; have := qx.2; omega)
            rw [xc] at we
            have wb := wat_b hv hx hr (c := (itw v p z k).toNat) (by have := qx.1; have := qx.2; omega)
            have tb := tot_b hv hr (itw v p z k) _ (Nat.le_refl _)
            have tp := tot_pos hv hr (itw v p z k) (by omega)
            refine Rt_bde we (Rt_bd (maf_eq hv hr g2) (fun r6 μ6 ⟨f1, f2⟩ => ?_))
            subst f1; subst f2
            rw [w64i (by omega) (by omega)]
            refine Rt_bde (down_eq (by omega) (by omega) tp (by omega) μ6) ?_
            have e1 : tm1 v p (itw v p z k) = 1000 * wat v p (itw v p z k).toNat / sumn (outs v p (itw v p z k)).1 (outs v p (itw v p z k)).2.2 := by unfold tm1; rw [if_neg (by omega)]
            rw [e1] at go
            exact go
        · refine Rt_bde (in_n (fun z => qx (oi.mp z))) (Rt_pos rfl (Rt_some ⟨?_, o⟩))
          have := wtm_stay qx (6 - k)
          rw [show k + (6 - k) = 6 by omega] at this
          exact this.symm
      · intro f s ⟨e0, e, o⟩
        obtain ⟨w, x, s⟩ := s
        have e0' : w = wtm v p z 6 := e0
        have e' : x = itw v p z 6 := e
        have oi := okC_in hv (itw_ok hv q (p := p) 6)
        show Rt (k_X12_wayTime_33 (f + 1) w x s) _
        rw [k_X12_wayTime_33, e', e0']
        exact Rt_bde (in_n (fun w => itw_6 hv q (oi.mp w))) (Rt_pos rfl (Rt_some ⟨rfl, o⟩))
  · refine q_ok h (-10000001) (fun μ h => ?_) (fun μ h => ?_)
    · unfold f_X11_wayTime
      exact Rt_bde (hasCell_n (lcN0 h.1.1) q) (Rt_pos rfl (Rt_some ⟨rfl, ScOK.refl h⟩))
    · obtain ⟨h1, s1⟩ := inv_thr h
      unfold f_X12_wayTime
      exact Rt_lm (Rt_bde (noCell_n (lmN0 h1.1.2.1) (lim0 h.1.2.2.1) q) (Rt_neg (by decide) (Rt_some ⟨rfl, s1⟩)))
