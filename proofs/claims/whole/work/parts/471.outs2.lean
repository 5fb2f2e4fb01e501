theorem open_spec {v : LV} (hv : wfL v) {μ : GM} {p : Int} (hc : veq v (mV 72 73 μ)) (hc2 : mV 59 70 μ = v) (ra : restM v μ p) (c : Int) : Rt (f_X12_open c μ) (fun _ μ' => ofr PGm FGm μ μ' ∧ mOut μ' (outs v p c)) := by
  have n1 := nn_c hv 1 (by omega)
  have n2 := nn_c hv 2 (by omega)
  have n3 := nn_c hv 3 (by omega)
  have n4 := nn_c hv 4 (by omega)
  have l0 := hv.1
  have l1 := hv.2.1
  have l2 := hv.2.2.1
  have l3 := hv.2.2.2.1
  have l4 := hv.2.2.2.2.1
  have kc : ∀ s, ofr PGm FGm μ s → veq v (mV 72 73 s) := fun s o => by
    rw [mV_keepv o (fun k h1 h2 => by unfold PGm; omega) (fun j h1 h2 => by unfold FGm; omega) (by omega) (by omega)]; exact hc
  have k2 : ∀ s, ofr PGm FGm μ s → mV 59 70 s = v := fun s o => by
    rw [mV_keepv o (fun k h1 h2 => by unfold PGm; omega) (fun j h1 h2 => by unfold FGm; omega) (by omega) (by omega)]; exact hc2
  have kr : ∀ s, ofr PGm FGm μ s → restM v s p := fun s o => rest_keepM ra o (by unfold PGm; omega) (by unfold FGm; omega) (by unfold FGm; omega)
  have d := det_pos hv ra.2.2.1
  unfold f_X12_open
  refine Rt_lm ?_
  refine Rt_loop (fun f z s => k_X12_open_7 f c z s) _ (nn v 1) (fun z s => ofr PGm FGm μ s ∧ mOut s (oL v p c z)) ?_ ?_ FU 0 _ (by omega) (FU_gt (by omega)) ⟨ofr.rfl.f ⟨rfl, rfl⟩, gF_same _ _ _ _, fun i hi => absurd hi (by show ¬ i < 0; omega)⟩
  · intro f z s hz ⟨ho, hs⟩ hnext
    have c1 := k2 s ho
    have h := hv.2.2.2.2.2.2.1 z hz
    have ln := oL_len v p c z
    have fb := flo_b hv ra.2.2.1 hz
    have ml := mlink_eq hv (kc s ho) (kr s ho) hz
    show Rt (k_X12_open_7 (f + 1) c (z : Int) s) _
    rw [k_X12_open_7, lmN1 c1, lmA3 c1, lmA4 c1]
    refine Rt_pos (by omega) (Rt_ck (by omega) ?_)
    by_cases q : v.1 3 z = c
    · obtain ⟨μ', e1, e2, e3⟩ := madd_eq ho hs (by omega) (v.1 4 z) (flo v p z)
      refine Rt_pos q ?_
      unfold k_X12_open_35 k_X12_open_61 k_X12_open_85
      rw [lmA3 c1, lmA4 c1]
      refine Rt_ck (by omega) (Rt_pos q (Rt_ck (by omega) (Rt_ck (by omega) (Rt_pos q (Rt_bde ml (Rt_bde e1 (Rt_lt ?_)))))))
      rw [w32s (by omega)]
      refine hnext _ ⟨e2, ?_⟩
      unfold oL
      rw [if_pos q]; exact e3
    · refine Rt_neg q (Rt_ck (by omega) ?_)
      by_cases q2 : v.1 4 z = c
      · obtain ⟨μ', e1, e2, e3⟩ := madd_eq ho hs (by omega) (v.1 3 z) (-flo v p z)
        refine Rt_pos q2 ?_
        unfold k_X12_open_35 k_X12_open_61 k_X12_open_85
        rw [lmA3 c1, lmA4 c1]
        refine Rt_ck (by omega) (Rt_neg q (Rt_ck (by omega) (Rt_ck (by omega) (Rt_neg q (Rt_bde ml ?_)))))
        rw [w64i (by omega) (by omega)]
        refine Rt_bde e1 (Rt_lt ?_)
        rw [w32s (by omega)]
        refine hnext _ ⟨e2, ?_⟩
        unfold oL
        rw [if_neg q, if_pos q2]; exact e3
      · refine Rt_neg q2 (Rt_lt ?_)
        rw [w32s (by omega)]
        refine hnext _ ⟨ho, ?_⟩
        unfold oL
        rw [if_neg q, if_neg q2]; exact hs
  intro f s ⟨ho, hs⟩
  have c1 := k2 s ho
  show Rt (k_X12_open_7 (f + 1) c (nn v 1 : Int) s) _
  rw [k_X12_open_7, lmN1 c1]
  refine Rt_neg (by omega) ?_
  refine Rt_loop (fun f z s => k_X12_open_96 f c z s) _ (nn v 2) (fun z s => ofr PGm FGm μ s ∧ mOut s (oR v p c z)) ?_ ?_ FU 0 s (by omega) (FU_gt (by omega)) ⟨ho, hs⟩
  · intro f z s hz ⟨ho, hs⟩ hnext
    have c1 := k2 s ho
    have ln := oR_len v p c z
    show Rt (k_X12_open_96 (f + 1) c (z : Int) s) _
    rw [k_X12_open_96, lmN2 c1, lmA6 c1]
    have fb := giv_b hv ra.2.2.1 hz
    refine Rt_pos (by omega) (Rt_ck (by omega) (Rt_if (fun q => ?_) (fun q => Rt_lt ?_)))
    · obtain ⟨μ', e1, e2, e3⟩ := madd_eq ho hs (by omega) (100 + z) (-giv v p z)
      refine Rt_bde (mriver_eq hv (kc s ho) (kr s ho) hz) ?_
      rw [w32i (by omega) (by omega), w64i (by omega) (by omega)]
      refine Rt_bde e1 (Rt_lt ?_)
      rw [w32s (by omega)]
      refine hnext _ ⟨e2, ?_⟩
      unfold oR
      rw [if_pos q]; exact e3
    · rw [w32s (by omega)]
      refine hnext _ ⟨ho, ?_⟩
      unfold oR
      rw [if_neg q]; exact hs
  intro f s ⟨ho, hs⟩
  have c1 := k2 s ho
  show Rt (k_X12_open_96 (f + 1) c (nn v 2 : Int) s) _
  rw [k_X12_open_96, lmN2 c1]
  refine Rt_neg (by omega) ?_
  refine Rt_loop (fun f z s => k_X12_open_136 f c z s) _ (nn v 3) (fun z s => ofr PGm FGm μ s ∧ mOut s (oD v p c z)) ?_ ?_ FU 0 s (by omega) (FU_gt (by omega)) ⟨ho, hs⟩
  · intro f z s hz ⟨ho, hs⟩ hnext
    have c1 := k2 s ho
    have ln := oD_len v p c z
    show Rt (k_X12_open_136 (f + 1) c (z : Int) s) _
    rw [k_X12_open_136, lmN3 c1, lmA10 c1]
    refine Rt_pos (by omega) (Rt_ck (by omega) (Rt_if (fun q => ?_) (fun q => Rt_lt ?_)))
    · obtain ⟨μ', e1, e2, e3⟩ := madd_eq ho hs (by omega) (200 + z) (tak v p z)
      refine Rt_bde (mdrain_eq hv (kc s ho) (kr s ho) hz) ?_
      rw [w32i (by omega) (by omega)]
      refine Rt_bde e1 (Rt_lt ?_)
      rw [w32s (by omega)]
      refine hnext _ ⟨e2, ?_⟩
      unfold oD
      rw [if_pos q]; exact e3
    · rw [w32s (by omega)]
      refine hnext _ ⟨ho, ?_⟩
      unfold oD
      rw [if_neg q]; exact hs
  intro f s ⟨ho, hs⟩
  have c1 := k2 s ho
  show Rt (k_X12_open_136 (f + 1) c (nn v 3 : Int) s) _
  rw [k_X12_open_136, lmN3 c1]
  refine Rt_neg (by omega) ?_
  refine Rt_loop (fun f z s => k_X12_open_176 f c z s) _ (nn v 4) (fun z s => ofr PGm FGm μ s ∧ mOut s (oW v p c z)) ?_ ?_ FU 0 s (by omega) (FU_gt (by omega)) ⟨ho, hs⟩
  · intro f z s hz ⟨ho, hs⟩ hnext
    have c1 := k2 s ho
    have h := hv.2.2.2.2.2.2.2.2.2 z hz
    have ln := oW_len v p c z
    have e73 : s.1 73 z = v.1 16 z := ((kc s ho).2.2.2 z hz).symm
    have m := mul_sm (a := v.1 16 z) (A := 99) (b := detv v p) (B := 6780000000) (by omega) (by omega) (by omega) (by omega)
    show Rt (k_X12_open_176 (f + 1) c (z : Int) s) _
    rw [k_X12_open_176, lmN4 c1, lmA13 c1, e73, (kr s ho).2.2.2.1]
    refine Rt_pos (by omega) (Rt_ck (by omega) (Rt_if (fun q => Rt_ck (by omega) ?_) (fun q => Rt_lt ?_)))
    · obtain ⟨μ', e1, e2, e3⟩ := madd_eq ho hs (by omega) (300 + z) (v.1 16 z * detv v p)
      rw [w32i (by omega) (by omega), w64i (by omega) (by omega)]
      refine Rt_bde e1 (Rt_lt ?_)
      rw [w32s (by omega)]
      refine hnext _ ⟨e2, ?_⟩
      unfold oW
      rw [if_pos q]; exact e3
    · rw [w32s (by omega)]
      refine hnext _ ⟨ho, ?_⟩
      unfold oW
      rw [if_neg q]; exact hs
  intro f s ⟨ho, hs⟩
  have c1 := k2 s ho
  show Rt (k_X12_open_176 (f + 1) c (nn v 4 : Int) s) _
  rw [k_X12_open_176, lmN4 c1]
  exact Rt_neg (by omega) (Rt_some ⟨ho, hs⟩)
/-! the first of the greatest -/
def gr (f : Nat → Int) : Nat → Option Nat
  | 0 => none
  | z + 1 => match gr f z with
    | none => some z
    | some k => if f k < f z then some z else some k
def grI (f : Nat → Int) (z : Nat) : Int := match gr f z with
  | none => -10000009
  | some k => (k : Int)
theorem gr_lt (f : Nat → Int) : ∀ z k, gr f z = some k → k < z
  | 0, k, h => by cases h
  | z + 1, k, h => by
    unfold gr at h
    cases e : gr f z with
    | none => rw [e] at h; cases h; omega
    | some j =>
      rw [e] at h
      have := gr_lt f z j e
      dsimp only at h
      split at h
      · cases h; omega
      · cases h; omega
theorem gr_some (f : Nat → Int) : ∀ z, 0 < z → ∃ k, gr f z = some k
  | 0, h => by omega
  | z + 1, _ => by
    unfold gr
    cases e : gr f z with
    | none => exact ⟨z, rfl⟩
    | some j =>
      dsimp only
      split
      · exact ⟨z, rfl⟩
      · exact ⟨j, rfl⟩
theorem cmain_eq {μ : GM} {o : OT} (h : cOut μ o) (hl : o.1 ≤ 20) : Rt (f_X8_mainOutlet μ) (fun r μ' => r = grI o.2.2 o.1 ∧ μ' = μ) := by
  unfold f_X8_mainOutlet
  refine Rt_loop (fun f z (q : Int × GM) => k_X8_mainOutlet_5 f q.1 z q.2) _ o.1 (fun z q => q.2 = μ ∧ q.1 = grI o.2.2 z) ?_ ?_ FU 0 (-10000009, μ) (by omega) (FU_gt (by omega)) ⟨rfl, rfl⟩
  · intro f z q hz ⟨e1, e2⟩ hnext
    obtain ⟨q1, q2⟩ := q
    have e1' : q2 = μ := e1
    have e2' : q1 = grI o.2.2 z := e2
    subst e1'; subst e2'
    show Rt (k_X8_mainOutlet_5 (f + 1) _ (z : Int) q2) _
    rw [k_X8_mainOutlet_5, h.1]
    refine Rt_pos (by omega) ?_
    cases e : gr o.2.2 z with
    | none =>
      have eg : grI o.2.2 z = -10000009 := by unfold grI; rw [e]
      rw [eg]
      refine Rt_pos rfl (Rt_lt ?_)
      rw [w32s (by omega)]
      refine hnext ((z : Int), q2) ⟨rfl, ?_⟩
      show (z : Int) = grI o.2.2 (z + 1)
      unfold grI gr
      rw [e]
    | some k =>
      have kl := gr_lt _ _ _ e
      have eg : grI o.2.2 z = (k : Int) := by unfold grI; rw [e]
      rw [eg]
      refine Rt_neg (by omega) (Rt_ck (by omega) (Rt_ck (by omega) ?_))
      rw [(h.2 k (by omega)).2, (h.2 z hz).2]
      refine Rt_if (fun q => Rt_lt ?_) (fun q => Rt_lt ?_)
      · rw [w32s (by omega)]
        refine hnext ((z : Int), q2) ⟨rfl, ?_⟩
        show (z : Int) = grI o.2.2 (z + 1)
        unfold grI gr
        rw [e]
        dsimp only
        rw [if_pos q]
      · rw [w32s (by omega)]
        refine hnext ((k : Int), q2) ⟨rfl, ?_⟩
        show (k : Int) = grI o.2.2 (z + 1)
        unfold grI gr
        rw [e]
        dsimp only
        rw [if_neg q]
  · intro f q ⟨e1, e2⟩
    obtain ⟨q1, q2⟩ := q
    have e1' : q2 = μ := e1
    have e2' : q1 = grI o.2.2 o.1 := e2
    subst e1'
    show Rt (k_X8_mainOutlet_5 (f + 1) q1 (o.1 : Int) q2) _
    rw [k_X8_mainOutlet_5, h.1]
    exact Rt_neg (by omega) (Rt_some ⟨e2', rfl⟩)
theorem mgreat_eq {μ : GM} {o : OT} (h : mOut μ o) (hl : o.1 ≤ 20) : f_X12_greatest μ = some (grI o.2.2 o.1, μ) := by
  have r : Rt (f_X12_greatest μ) (fun r μ' => r = grI o.2.2 o.1 ∧ μ' = μ) := by
    unfold f_X12_greatest
    refine Rt_loop (fun f z (q : Int × GM) => k_X12_greatest_5 f q.1 z q.2) _ o.1 (fun z q => q.2 = μ ∧ q.1 = grI o.2.2 z) ?_ ?_ FU 0 (-10000009, μ) (by omega) (FU_gt (by omega)) ⟨rfl, rfl⟩
    · intro f z q hz ⟨e1, e2⟩ hnext
      obtain ⟨q1, q2⟩ := q
      have e1' : q2 = μ := e1
      have e2' : q1 = grI o.2.2 z := e2
      subst e1'; subst e2'
      show Rt (k_X12_greatest_5 (f + 1) _ (z : Int) q2) _
      rw [k_X12_greatest_5, h.1]
      refine Rt_pos (by omega) ?_
      cases e : gr o.2.2 z with
      | none =>
        have eg : grI o.2.2 z = -10000009 := by unfold grI; rw [e]
        rw [eg]
        refine Rt_pos rfl (Rt_lt ?_)
        rw [w32s (by omega)]
        refine hnext ((z : Int), q2) ⟨rfl, ?_⟩
        show (z : Int) = grI o.2.2 (z + 1)
        unfold grI gr
        rw [e]
      | some k =>
        have kl := gr_lt _ _ _ e
        have eg : grI o.2.2 z = (k : Int) := by unfold grI; rw [e]
        rw [eg]
        refine Rt_neg (by omega) (Rt_ck (by omega) (Rt_ck (by omega) ?_))
        rw [(h.2 k (by omega)).2, (h.2 z hz).2]
        refine Rt_if (fun q => Rt_lt ?_) (fun q => Rt_lt ?_)
        · rw [w32s (by omega)]
          refine hnext ((z : Int), q2) ⟨rfl, ?_⟩
          show (z : Int) = grI o.2.2 (z + 1)
          unfold grI gr
          rw [e]
          dsimp only
          rw [if_pos q]
        · rw [w32s (by omega)]
          refine hnext ((k : Int), q2) ⟨rfl, ?_⟩
          show (k : Int) = grI o.2.2 (z + 1)
          unfold grI gr
          rw [e]
          dsimp only
          rw [if_neg q]
    · intro f q ⟨e1, e2⟩
      obtain ⟨q1, q2⟩ := q
      have e1' : q2 = μ := e1
      have e2' : q1 = grI o.2.2 o.1 := e2
      subst e1'
      show Rt (k_X12_greatest_5 (f + 1) q1 (o.1 : Int) q2) _
      rw [k_X12_greatest_5, h.1]
      exact Rt_neg (by omega) (Rt_some ⟨e2', rfl⟩)
  obtain ⟨a, b, e1, e2, e3⟩ := r
  rw [e1, e2, e3]
def nx (v : LV) (p c : Int) : Int := match gr (outs v p c).2.2 (outs v p c).1 with
  | none => -10000009
  | some k => (outs v p c).2.1 k
theorem onward_spec {v : LV} (hv : wfL v) {μ : GM} {p : Int} (hc : cV 22 μ = v) (ra : restAt v 94 μ p) (c : Int) : Rt (f_X8_onward c μ) (fun r μ' => r = nx v p c ∧ ofr PGc FGc μ μ' ∧ cOut μ' (outs v p c)) := by
  have hl := outs_len hv p c
  unfold f_X8_onward
  refine Rt_bd (gather_spec hv hc ra c) (fun _ μ2 ⟨o2, h2⟩ => Rt_bd (cmain_eq h2 hl) (fun r μ3 ⟨e1, e2⟩ => ?_))
  subst e1; subst e2
  cases e : gr (outs v p c).2.2 (outs v p c).1 with
  | none =>
    have eg : grI (outs v p c).2.2 (outs v p c).1 = -10000009 := by unfold grI; rw [e]
    have en : nx v p c = -10000009 := by unfold nx; rw [e]
    rw [eg, en]
    exact Rt_pos rfl (Rt_some ⟨rfl, o2, h2⟩)
  | some k =>
    have kl := gr_lt _ _ _ e
    have eg : grI (outs v p c).2.2 (outs v p c).1 = (k : Int) := by unfold grI; rw [e]
    have en : nx v p c = (outs v p c).2.1 k := by unfold nx; rw [e]
    rw [eg, en]
    exact Rt_neg (by omega) (Rt_ck (by omega) (Rt_some ⟨(h2.2 k kl).1, o2, h2⟩))
theorem nextOf_spec {v : LV} (hv : wfL v) {μ : GM} {p : Int} (hc : veq v (mV 72 73 μ)) (hc2 : mV 59 70 μ = v) (ra : restM v μ p) (c : Int) : Rt (f_X12_nextOf c μ) (fun r μ' => r = nx v p c ∧ ofr PGm FGm μ μ' ∧ mOut μ' (outs v p c)) := by
  have hl := outs_len hv p c
  unfold f_X12_nextOf
  refine Rt_bd (open_spec hv hc hc2 ra c) (fun _ μ2 ⟨o2, h2⟩ => Rt_bde (mgreat_eq h2 hl) ?_)
  cases e : gr (outs v p c).2.2 (outs v p c).1 with
  | none =>
    have eg : grI (outs v p c).2.2 (outs v p c).1 = -10000009 := by unfold grI; rw [e]
    have en : nx v p c = -10000009 := by unfold nx; rw [e]
    rw [eg, en]
    exact Rt_pos rfl (Rt_some ⟨rfl, o2, h2⟩)
  | some k =>
    have kl := gr_lt _ _ _ e
    have eg : grI (outs v p c).2.2 (outs v p c).1 = (k : Int) := by unfold grI; rw [e]
    have en : nx v p c = (outs v p c).2.1 k := by unfold nx; rw [e]
    rw [eg, en]
    exact Rt_neg (by omega) (Rt_ck (by omega) (Rt_some ⟨(h2.2 k kl).1, o2, h2⟩))
