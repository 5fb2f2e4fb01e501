/-! permits: the reference's reading -/
def PHm : Nat → Prop := fun k => k = 89 ∨ k = 90 ∨ k = 91
def nFm : Nat → Nat → Prop := fun _ _ => False
def mst (ν s : GM) (k d : Int) (y al nt : Int → Int) : Prop := ofr PHm nFm ν s ∧ ∀ j, 0 ≤ j → j ≤ d → s.1 89 j = y j ∧ s.1 90 j = al j ∧ (0 ≤ s.1 91 j ∧ s.1 91 j ≤ k) ∧ s.1 91 j % 2 = nt j ∧ (al j = 0 ∨ al j = 1)
theorem mst.k {ν s : GM} {k k' d : Int} {y al nt : Int → Int} (h : mst ν s k d y al nt) (hk : k ≤ k') : mst ν s k' d y al nt := ⟨h.1, fun j a b => ⟨(h.2 j a b).1, (h.2 j a b).2.1, by have := (h.2 j a b).2.2.1; omega, (h.2 j a b).2.2.2⟩⟩
theorem mput {ν s : GM} {k d z : Int} {y al nt : Int → Int} (h : mst ν s k d y al nt) (hd : 0 ≤ d ∧ d < 201) (hk : 0 ≤ k) (hz : z = 0 ∨ z = 1) : ∃ s', f_X12_came d z s = some (0, s') ∧ mst ν s' k d y (putA al nt d z) (ups nt d 0) := by
  obtain ⟨o, e⟩ := h
  have p90 : PHm 90 := by unfold PHm; omega
  have p91 : PHm 91 := by unfold PHm; omega
  obtain ⟨d1, d2, d3, d4, d5⟩ := e d hd.1 (by omega)
  have fin : ∀ val, val = putA al nt d z d → (val = 0 ∨ val = 1) → mst ν (gA (gA s 90 d val) 91 d 0) k d y (putA al nt d z) (ups nt d 0) := by
    intro val hval hv
    refine ⟨(o.a p90).a p91, fun j h1 h2 => ?_⟩
    obtain ⟨j1, j2, j3, j4, j5⟩ := e j h1 h2
    rw [gA_nk _ _ _ (by decide), gA_nk _ _ _ (by decide), gA_nk _ _ _ (by decide), gA_at, gA_at, gA_nk _ _ _ (by decide)]
    by_cases q : j = d
    · subst q
      rw [if_pos rfl, if_pos rfl, ← hval]
      refine ⟨j1, rfl, by omega, ?_, hv⟩
      unfold ups; rw [if_pos rfl]; rfl
    · have ea : putA al nt d z j = al j := by
        unfold putA ups
        split
        · exact if_neg q
        · rfl
      rw [if_neg q, if_neg q, ea]
      refine ⟨j1, j2, j3, ?_, j5⟩
      unfold ups; rw [if_neg q]; exact j4
  have v0 : z = nt d → putA al nt d z d = 0 := fun q => by unfold putA ups; rw [if_pos q]; exact if_pos rfl
  have v1 : z ≠ nt d → putA al nt d z d = al d := fun q => by unfold putA; rw [if_neg q]
  have et : Int.tmod (s.1 91 d) 2 = s.1 91 d % 2 := Int.tmod_eq_emod_of_nonneg d3.1
  have c40 : putA al nt d z d = 0 → ∃ s', k_X12_came_40 d d s = some (0, s') ∧ mst ν s' k d y (putA al nt d z) (ups nt d 0) := by
    intro e0
    unfold k_X12_came_40 lm
    rw [ck_pos hd]
    dsimp only
    rw [ck_pos hd]
    exact ⟨_, rfl, fin 0 e0.symm (Or.inl rfl)⟩
  unfold f_X12_came
  rw [ck_pos hd, d2]
  by_cases q0 : al d = 0
  · rw [if_pos q0]
    refine c40 ?_
    by_cases q : z = nt d
    · exact v0 q
    · rw [v1 q]; exact q0
  rw [if_neg q0, ck_pos hd, ck_pos (by decide), et, d4]
  have set1 : putA al nt d z d = 1 → ∃ s', (ck (0 ≤ d ∧ d < 201) (lm (gA s 90 d (1 % 2)) fun μ3 => ck (0 ≤ d ∧ d < 201) (lm (gA μ3 91 d 0) fun μ4 => some ((0 : Int), μ4)))) = some (0, s') ∧ mst ν s' k d y (putA al nt d z) (ups nt d 0) := by
    intro e1
    unfold lm
    rw [ck_pos hd]
    dsimp only
    rw [ck_pos hd]
    exact ⟨_, rfl, fin 1 e1.symm (Or.inr rfl)⟩
  by_cases q1 : nt d = 0
  · rw [if_pos q1]
    by_cases q2 : z = 0
    · rw [if_pos q2]; exact c40 (v0 (by omega))
    · rw [if_neg q2]; exact set1 (by rw [v1 (by omega)]; omega)
  · rw [if_neg q1]
    by_cases q2 : z = 0
    · rw [if_pos q2]; exact set1 (by rw [v1 (by omega)]; omega)
    · rw [if_neg q2]; exact c40 (v0 (by omega))
theorem mbegin {ν s : GM} {k d : Int} {y al nt : Int → Int} (o : ofr PHm nFm ν s) (hk : 0 ≤ k) (hd : 0 ≤ d ∧ d < 201) (h : ∀ j, 0 ≤ j → j < d → s.1 89 j = y j ∧ s.1 90 j = al j ∧ (0 ≤ s.1 91 j ∧ s.1 91 j ≤ k) ∧ s.1 91 j % 2 = nt j ∧ (al j = 0 ∨ al j = 1)) : ∃ s', f_X12_begin d s = some (0, s') ∧ mst ν s' k d (ups y d 0) (ups al d 1) (ups nt d 0) := by
  have p89 : PHm 89 := by unfold PHm; omega
  have p90 : PHm 90 := by unfold PHm; omega
  have p91 : PHm 91 := by unfold PHm; omega
  unfold f_X12_begin lm
  rw [ck_pos hd]
  dsimp only
  rw [ck_pos hd, ck_pos hd]
  refine ⟨_, rfl, ((o.a p89).a p90).a p91, fun j h1 h2 => ?_⟩
  rw [gA_nk _ _ _ (by decide), gA_nk _ _ _ (by decide), gA_at, gA_nk _ _ _ (by decide), gA_at, gA_nk _ _ _ (by decide), gA_at, gA_nk _ _ _ (by decide), gA_nk _ _ _ (by decide)]
  unfold ups
  by_cases q : j = d
  · rw [if_pos q, if_pos q, if_pos q, if_pos q, if_pos q, if_pos q]; exact ⟨rfl, rfl, by omega, rfl, Or.inr rfl⟩
  · rw [if_neg q, if_neg q, if_neg q, if_neg q, if_neg q, if_neg q]; exact h j h1 (by omega)
theorem m277 {kL : Int → Int → GM → Option (Int × GM)} {z1 z2 z4 z5 w : Int} {s : GM} {Q : Int → GM → Prop} (h : Rt (k_X12_isHeld_337 kL z1 z2 z1 (cmpv z5 z4 w) s) Q) : Rt (k_X12_isHeld_277 kL z1 z2 z4 z5 w s) Q := by
  unfold k_X12_isHeld_277
  unfold cmpv at h
  by_cases q1 : z5 = 60
  · rw [if_pos q1] at h ⊢
    by_cases g : z4 < w
    · rw [if_pos g] at h ⊢; exact h
    · rw [if_neg g] at h ⊢; exact h
  rw [if_neg q1] at h ⊢
  by_cases q2 : z5 = 62
  · rw [if_pos q2] at h ⊢
    by_cases g : w < z4
    · rw [if_pos g] at h ⊢; exact h
    · rw [if_neg g] at h ⊢; exact h
  rw [if_neg q2] at h ⊢
  by_cases g : z4 = w
  · rw [if_pos g] at h ⊢; exact h
  · rw [if_neg g] at h ⊢; exact h
theorem cmp01 (a b c : Int) : cmpv a b c = 0 ∨ cmpv a b c = 1 := by unfold cmpv; split <;> (try split) <;> (try split) <;> omega
theorem mheld {v : LV} {ν : GM} {N p : Int} {sg : Int → Int} (hv : wfL v) (hm : veq v (mV 72 73 ν)) (ra : restM v ν p) (hN : ν.2 53 44 = N) (hs : ν.1 88 = sg) (hb : N ≤ 200) :
    ∀ (n fuel : Nat) (k d : Int) (y al nt : Int → Int) (s : GM), N - k < n → N - k < fuel → gst v sg N k d → mst ν s k d y al nt → Rt (k_X12_isHeld_9 fuel d k s) (fun r s' => r = hev (vlu v p) sg N n k d y al nt ∧ ofr PHm nFm ν s')
  | 0, f, k, d, y, al, nt, s, h1, h2, g, h => by have := (gst_cases g).1; omega
  | n + 1, 0, k, d, y, al, nt, s, h1, h2, g, h => by have := (gst_cases g).1; omega
  | n + 1, f + 1, k, d, y, al, nt, s, h1, h2, g, h => by
    obtain ⟨gb, gc⟩ := gst_cases g
    have h0 := h
    obtain ⟨o, e⟩ := h
    have eN : s.2 53 44 = N := (o.2 53 44 (fun z => z)).trans hN
    have e88 : s.1 88 = sg := (o.1 88 (by unfold PHm; omega)).trans hs
    obtain ⟨d1, d2, d3, d4, d5⟩ := e d (by omega) (by omega)
    rw [k_X12_isHeld_9, eN, e88]
    have p89 : PHm 89 := by unfold PHm; omega
    have p90 : PHm 90 := by unfold PHm; omega
    have p91 : PHm 91 := by unfold PHm; omega
    rcases gc with ⟨g1, g2⟩ | ⟨hk, gc⟩
    · subst g2
      refine Rt_neg (by omega) ?_
      rw [hev, if_neg (show ¬ k < N by omega)]
      refine (Rt_ck (by omega) (any_br (fun t => some (t % 2, s)) d1 d2 (by omega) (Rt_some ⟨?_, o⟩)))
      have := any01 y al 0
      omega
    have wk : w32 (k + 1) = k + 1 := w32i (by omega) (by omega)
    refine Rt_pos hk (Rt_ck (by omega) (Rt_lt (Rt_lt ?_)))
    rw [wk, hev, if_pos hk]
    by_cases q1 : sg k = 33
    · refine Rt_pos q1 (Rt_ck (by omega) (Rt_ck (by omega) (Rt_lm ?_)))
      rw [if_pos q1, w32i (x := s.1 91 d + 1) (by omega) (by omega)]
      have g' : gst v sg N (k + 1) d := by
        rcases gc with ⟨q, r⟩ | ⟨q, r⟩ | ⟨q, r⟩ | ⟨q, r⟩ | ⟨q, r⟩
        · exact r
        all_goals (first | omega | (unfold ltr at q; omega))
      refine mheld hv hm ra hN hs hb n f (k + 1) d y al _ _ (by omega) (by omega) g' ⟨o.a p91, fun j a1 a2 => ?_⟩
      obtain ⟨j1, j2, j3, j4, j5⟩ := e j a1 a2
      rw [gA_nk _ _ _ (by decide), gA_nk _ _ _ (by decide), gA_at]
      unfold ups
      by_cases q : j = d
      · subst q
        rw [if_pos rfl, if_pos rfl]
        refine ⟨j1, j2, by omega, ?_, j5⟩
        by_cases c : nt j = 0
        · rw [if_pos c]; omega
        · rw [if_neg c]; omega
      · rw [if_neg q, if_neg q]
        exact ⟨j1, j2, by omega, j4, j5⟩
    refine Rt_neg q1 ?_
    rw [if_neg q1]
    by_cases q2 : sg k = 40
    · have g' : gst v sg N (k + 1) (d + 1) := by
        rcases gc with ⟨q, r⟩ | ⟨q, r⟩ | ⟨q, r⟩ | ⟨q, r⟩ | ⟨q, r⟩
        · omega
        · exact r
        all_goals (first | omega | (unfold ltr at q; omega))
      refine Rt_pos q2 (Rt_lt ?_)
      rw [if_pos q2, w32i (x := d + 1) (by omega) (by omega)]
      obtain ⟨s2, b1, b2⟩ := mbegin (k := k + 1) (d := d + 1) o (by omega) (by omega) (fun j a1 a2 => (h0.k (show k ≤ k + 1 by omega)).2 j a1 (by omega))
      refine Rt_bde b1 ?_
      exact mheld hv hm ra hN hs hb n f (k + 1) (d + 1) _ _ _ _ (by omega) (by omega) g' b2
    refine Rt_neg q2 ?_
    rw [if_neg q2]
    by_cases q3 : sg k = 41
    · have g' : 0 < d ∧ gst v sg N (k + 1) (d - 1) := by
        rcases gc with ⟨q, r⟩ | ⟨q, r⟩ | ⟨q, r⟩ | ⟨q, r⟩ | ⟨q, r⟩
        · omega
        · omega
        · exact r
        all_goals (first | omega | (unfold ltr at q; omega))
      refine Rt_pos q3 (Rt_ck (by omega) ?_)
      rw [if_pos q3]
      refine any_br (fun t => k_X12_isHeld_92 (k_X12_isHeld_9 f) d (k + 1) t s) d1 d2 (by omega) ?_
      unfold k_X12_isHeld_92
      refine Rt_lt ?_
      rw [show d + -1 = d - 1 by omega, w32i (x := d - 1) (by omega) (by omega)]
      obtain ⟨s2, b1, b2⟩ := mput (ν := ν) (s := s) (k := k + 1) (d := d - 1) (z := anyv y al d) (y := y) (al := al) (nt := nt) ⟨o, fun j a1 a2 => (h0.k (show k ≤ k + 1 by omega)).2 j a1 (by omega)⟩ (by omega) (by omega) (any01 y al d)
      refine Rt_bde b1 ?_
      exact mheld hv hm ra hN hs hb n f (k + 1) (d - 1) _ _ _ _ (by omega) (by omega) g'.2 b2
    refine Rt_neg q3 ?_
    rw [if_neg q3]
    by_cases q4 : sg k = 124
    · have g' : gst v sg N (k + 1) d := by
        rcases gc with ⟨q, r⟩ | ⟨q, r⟩ | ⟨q, r⟩ | ⟨q, r⟩ | ⟨q, r⟩
        · omega
        · omega
        · omega
        · exact r
        · unfold ltr at q; omega
      refine Rt_pos q4 (Rt_ck (by omega) ?_)
      rw [if_pos q4]
      refine any_br (fun t => ck (0 ≤ d ∧ d < 201) (lm (gA s 89 d (t % 2)) fun μ7 => ck (0 ≤ d ∧ d < 201) (lm (gA μ7 90 d (1 % 2)) fun μ8 => k_X12_isHeld_9 f d (k + 1) μ8))) d1 d2 (by omega) ?_
      have a01 := any01 y al d
      rw [show anyv y al d % 2 = anyv y al d by omega]
      refine Rt_ck (by omega) (Rt_lm (Rt_ck (by omega) (Rt_lm ?_)))
      refine mheld hv hm ra hN hs hb n f (k + 1) d _ _ _ _ (by omega) (by omega) g' ⟨(o.a p89).a p90, fun j a1 a2 => ?_⟩
      obtain ⟨j1, j2, j3, j4, j5⟩ := e j a1 a2
      rw [gA_nk _ _ _ (by decide), gA_at, gA_at, gA_nk _ _ _ (by decide), gA_nk _ _ _ (by decide), gA_nk _ _ _ (by decide)]
      unfold ups
      by_cases q : j = d
      · rw [if_pos q, if_pos q, if_pos q, if_pos q]; exact ⟨rfl, rfl, by omega, j4, Or.inr rfl⟩
      · rw [if_neg q, if_neg q, if_neg q, if_neg q]; exact ⟨j1, j2, by omega, j4, j5⟩
    refine Rt_neg q4 ?_
    rw [if_neg q4]
    by_cases q5 : sg k = 38
    · have g' : gst v sg N (k + 1) d := by
        rcases gc with ⟨q, r⟩ | ⟨q, r⟩ | ⟨q, r⟩ | ⟨q, r⟩ | ⟨q, r⟩
        · omega
        · omega
        · omega
        · exact r
        · unfold ltr at q; omega
      refine Rt_pos q5 ?_
      rw [if_pos q5]
      exact mheld hv hm ra hN hs hb n f (k + 1) d _ _ _ _ (by omega) (by omega) g' (h0.k (by omega))
    refine Rt_neg q5 ?_
    rw [if_neg q5]
    have g' : isCm v sg N k d := by
      rcases gc with ⟨q, r⟩ | ⟨q, r⟩ | ⟨q, r⟩ | ⟨q, r⟩ | r
      · omega
      · omega
      · omega
      · omega
      · exact r
    obtain ⟨t1, t2, t3, t4, t5, t6, t7⟩ := g'
    have s01 := sgn01 sg k
    have t2' := t2.1
    unfold dgt at t2'
    have hm2 : veq v (mV 72 73 s) := by rw [mV_keep o (fun k _ _ => by unfold PHm; omega) (fun _ _ _ z => z) (by unfold PHm; omega) (by unfold PHm; omega)]; exact hm
    have r2 : restM v s p := ⟨ra.1, ra.2.1, ra.2.2.1, by rw [o.2 53 24 (fun z => z)]; exact ra.2.2.2.1, by rw [o.2 53 25 (fun z => z)]; exact ra.2.2.2.2.1, fun c hc => by rw [o.1 71 (by unfold PHm; omega)]; exact ra.2.2.2.2.2 c hc⟩
    have vb := nmb_b (sg := sg) (N := N) 7 0 (k + 3 + sgn sg k) 0 (by omega) (by omega) (by decide)
    rw [w32i (x := sg (k + 1) - 48) (by omega) (by omega)]
    refine Rt_ck (by omega) (Rt_bde (mval hv hm2 r2 ⟨by omega, t2.2⟩) ?_)
    rw [e88, w32i (x := k + 1 + 1) (by omega) (by omega), w32i (x := k + 1 + 2) (by omega) (by omega), show k + 1 + 1 = k + 2 by omega, show k + 1 + 2 = k + 3 by omega]
    refine Rt_ck (by omega) (Rt_lt (Rt_lt (Rt_ck (by omega) ?_)))
    have fin : Rt (k_X12_isHeld_277 (k_X12_isHeld_9 f) d (nmb sg N 7 (k + 3 + sgn sg k) 0).2 (vlu v p (sg k) (sg (k + 1) - 48)) (sg (k + 2)) (wrd sg N k) s) (fun r s' => r = hev (vlu v p) sg N n (nmb sg N 7 (k + 3 + sgn sg k) 0).2 d y (putA al nt d (cmpv (sg (k + 2)) (vlu v p (sg k) (sg (k + 1) - 48)) (wrd sg N k))) (ups nt d 0) ∧ ofr PHm nFm ν s') := by
      refine m277 ?_
      unfold k_X12_isHeld_337
      obtain ⟨s2, b1, b2⟩ := mput (h0.k (show k ≤ (nmb sg N 7 (k + 3 + sgn sg k) 0).2 by omega)) (by omega) (by omega) (cmp01 (sg (k + 2)) (vlu v p (sg k) (sg (k + 1) - 48)) (wrd sg N k))
      refine Rt_bde b1 ?_
      exact mheld hv hm ra hN hs hb n f _ d _ _ _ _ (by omega) (by omega) t6 b2
    unfold wrd at fin
    rcases s01 with ⟨c1, c2⟩ | ⟨c1, c2⟩
    · refine Rt_pos c1 ?_
      unfold k_X12_isHeld_203
      refine Rt_neg (by decide) (Rt_lt ?_)
      unfold wrd
      rw [c2] at fin t7 vb ⊢
      rw [w32i (x := k + 3 + 1) (by omega) (by omega), mnum hb e88 eN 7 FU 0 (k + 3 + 1) 0 (by omega) (FU_gt (by omega)) (by omega) (by omega) (by decide) t7]
      unfold k_X12_isHeld_264
      refine Rt_neg (by decide) ?_
      rw [if_neg (by decide)] at fin ⊢
      rw [w32i (by omega) (by omega)]
      exact fin
    · refine Rt_neg c1 ?_
      unfold k_X12_isHeld_203
      refine Rt_pos rfl (Rt_lt ?_)
      unfold wrd
      rw [c2] at fin t7 vb ⊢
      rw [w32i (x := k + 3 + 0) (by omega) (by omega), mnum hb e88 eN 7 FU 0 (k + 3 + 0) 0 (by omega) (FU_gt (by omega)) (by omega) (by omega) (by decide) t7]
      unfold k_X12_isHeld_264
      refine Rt_pos rfl ?_
      rw [if_pos rfl] at fin ⊢
      exact fin
