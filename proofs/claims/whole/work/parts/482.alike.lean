/-! how many worlds are alike -/
theorem zb6 : ∀ (s : Fin 64) (i j : Fin 6), decide (gand (gand (gshr (s.1 : Int) (i.1 : Int)) (gshr (s.1 : Int) (j.1 : Int))) 1 = 1) = (decide (bt (s.1 : Int) i.1) && decide (bt (s.1 : Int) j.1)) := by decide +kernel
theorem s_two {S : Int} (h : sR S) {i j : Nat} (hi : i < 6) (hj : j < 6) : gand (gand (gshr S (i : Int)) (gshr S (j : Int))) 1 = 1 ↔ bt S i ∧ bt S j := by
  obtain ⟨s, hs⟩ : ∃ s : Fin 64, S = (s.1 : Int) := ⟨⟨S.toNat, by have := h.1; have := h.2; omega⟩, by show S = ((S.toNat : Nat) : Int); have := h.1; omega⟩
  subst hs
  have b : decide (gand (gand (gshr (s.1 : Int) (i : Int)) (gshr (s.1 : Int) (j : Int))) 1 = 1) = (decide (bt (s.1 : Int) i) && decide (bt (s.1 : Int) j)) := zb6 s ⟨i, hi⟩ ⟨j, hj⟩
  rw [← decide_eq_true_iff (p := gand (gand (gshr (s.1 : Int) (i : Int)) (gshr (s.1 : Int) (j : Int))) 1 = 1), b, Bool.and_eq_true, decide_eq_true_iff, decide_eq_true_iff]
noncomputable def lkn (v : LV) (μ : GM) (S : Int) (c w : Nat) (z : Nat) : Int := sumn z (fun u => if bt S u ∧ wM (wld v μ u) c = wM (wld v μ w) c then 1 else 0)
noncomputable def mon (v : LV) (μ : GM) (S : Int) (c N : Nat) : Nat → Int
  | 0 => 0
  | w + 1 => if bt S w then (if mon v μ S c N w < lkn v μ S c w N then lkn v μ S c w N else mon v μ S c N w) else mon v μ S c N w
theorem lkn_b (v : LV) (μ : GM) (S : Int) (c w z : Nat) : 0 ≤ lkn v μ S c w z ∧ lkn v μ S c w z ≤ z * 1 := sumn_pb (by omega) (fun i _ => by split <;> omega)
theorem mon_b (v : LV) (μ : GM) (S : Int) (c N : Nat) : ∀ w, 0 ≤ mon v μ S c N w ∧ mon v μ S c N w ≤ N
  | 0 => ⟨Int.le_refl 0, by show (0 : Int) ≤ N; omega⟩
  | w + 1 => by
    have ih := mon_b v μ S c N w
    have b := lkn_b v μ S c w N
    unfold mon
    split
    · split <;> omega
    · exact ih
theorem calike_spec {v : LV} {μ s : GM} (h : InvV v μ) (sc : ScOK v μ s) {N : Nat} (hN : μ.2 31 2 = N) {S : Int} (hS : setL v μ S N) (hr : RowC v μ s N) {c : Nat} (hc : c < nn v 0) : Rt (f_X10_mostAlike S (c : Int) s) (fun r s' => r = mon v μ S c N N ∧ s' = s) := by
  have w5 := h.2.2.2.2.1.2.1
  have hN5 : N ≤ 5 := by omega
  have n6' := n6 h.1.2.2.1
  have e31 : s.2 31 2 = N := by rw [(sc_arr sc).2.2.2.2, hN]
  have rd : ∀ j, j < N → bt S j → s.1 (37 + j) (c : Int) = wM (wld v μ j) c := fun j hj hb => hr j hj ((hS.2 j (by omega)).mp hb).2 c hc
  unfold f_X10_mostAlike
  refine Rt_loop (fun f w (q : Int × GM) => k_X10_mostAlike_5 f S (c : Int) q.1 w q.2) _ N (fun w q => q.2 = s ∧ q.1 = mon v μ S c N w) ?_ ?_ FU 0 (0, s) (by omega) (FU_gt (by omega)) ⟨rfl, rfl⟩
  · intro f w q hw ⟨e1, e2⟩ hnext
    obtain ⟨m, s2⟩ := q
    have e1' : s2 = s := e1
    have e2' : m = mon v μ S c N w := e2
    subst e1'; subst e2'
    show Rt (k_X10_mostAlike_5 (f + 1) S (c : Int) _ (w : Int) s2) _
    rw [k_X10_mostAlike_5, e31]
    refine Rt_pos (by omega) ?_
    have mb := mon_b v μ S c N w
    refine Rt_loop (fun f' u (q : Int × GM) => k_X10_mostAlike_20 (k_X10_mostAlike_5 f) f' S (c : Int) (mon v μ S c N w) (w : Int) q.1 u q.2) _ N (fun u q => q.2 = s2 ∧ (0 ≤ q.1 ∧ q.1 ≤ u) ∧ (bt S w → q.1 = lkn v μ S c w u)) ?_ ?_ FU 0 (0, s2) (by omega) (FU_gt (by omega)) ⟨rfl, ⟨Int.le_refl 0, show (0 : Int) ≤ ((0 : Nat) : Int) by decide⟩, fun _ => rfl⟩
    · intro f2 u q hu ⟨e3, e4, e5⟩ hnext2
      obtain ⟨k, s3⟩ := q
      have e3' : s3 = s2 := e3
      subst e3'
      have e4' : 0 ≤ k ∧ k ≤ u := e4
      have e5' : bt S w → k = lkn v μ S c w u := e5
      have es : lkn v μ S c w (u + 1) = lkn v μ S c w u + (if bt S u ∧ wM (wld v μ u) c = wM (wld v μ w) c then 1 else 0) := rfl
      show Rt (k_X10_mostAlike_20 (k_X10_mostAlike_5 f) (f2 + 1) S (c : Int) (mon v μ S c N w) (w : Int) k (u : Int) s3) _
      rw [k_X10_mostAlike_20, e31, Int.toNat_natCast, Int.toNat_natCast]
      refine Rt_pos (by omega) ?_
      by_cases qu : bt S u
      · refine Rt_pos qu (Rt_ck (by omega) (Rt_ck (by omega) (Rt_ck (by omega) (Rt_ck (by omega) ?_))))
        refine Rt_if (fun g => Rt_lt (Rt_lt ?_)) (fun g => Rt_lt ?_)
        · rw [w32s (by omega), w32i (by omega) (by omega)]
          refine hnext2 (k + 1, s3) ⟨rfl, ⟨by show 0 ≤ k + 1; omega, by show k + 1 ≤ ((u + 1 : Nat) : Int); omega⟩, fun hb => ?_⟩
          show k + 1 = _
          rw [rd u hu qu, rd w hw hb] at g
          rw [es, if_pos ⟨qu, g⟩, e5' hb]
        · rw [w32s (by omega)]
          refine hnext2 (k, s3) ⟨rfl, ⟨e4'.1, by show k ≤ ((u + 1 : Nat) : Int); omega⟩, fun hb => ?_⟩
          show k = _
          rw [rd u hu qu, rd w hw hb] at g
          rw [es, if_neg (fun z => g z.2), e5' hb, Int.add_zero]
      · refine Rt_neg qu (Rt_lt ?_)
        rw [w32s (by omega)]
        refine hnext2 (k, s3) ⟨rfl, ⟨e4'.1, by show k ≤ ((u + 1 : Nat) : Int); omega⟩, fun hb => ?_⟩
        show k = _
        rw [es, if_neg (fun z => qu z.1), e5' hb, Int.add_zero]
    · intro f2 q ⟨e3, e4, e5⟩
      obtain ⟨k, s3⟩ := q
      have e3' : s3 = s2 := e3
      subst e3'
      have e5' : bt S w → k = lkn v μ S c w N := e5
      show Rt (k_X10_mostAlike_20 (k_X10_mostAlike_5 f) (f2 + 1) S (c : Int) (mon v μ S c N w) (w : Int) k (N : Int) s3) _
      rw [k_X10_mostAlike_20, e31]
      refine Rt_neg (by omega) ?_
      by_cases qw : bt S w
      · have ek := e5' qw
        have em : f_J9_max_7cf53 (mon v μ S c N w) k s3 = some (mon v μ S c N (w + 1), s3) := by
          unfold f_J9_max_7cf53
          rw [ek]
          show _ = some ((if bt S w then _ else _), _)
          rw [if_pos qw]
          split <;> rfl
        refine Rt_pos qw (Rt_bde em (Rt_lt ?_))
        rw [w32s (by omega)]
        exact hnext (_, s3) ⟨rfl, rfl⟩
      · refine Rt_neg qw (Rt_lt ?_)
        rw [w32s (by omega)]
        refine hnext (mon v μ S c N w, s3) ⟨rfl, ?_⟩
        show mon v μ S c N w = (if bt S w then _ else _)
        rw [if_neg qw]
  · intro f q ⟨e1, e2⟩
    obtain ⟨m, s2⟩ := q
    have e1' : s2 = s := e1
    have e2' : m = mon v μ S c N N := e2
    subst e1'
    show Rt (k_X10_mostAlike_5 (f + 1) S (c : Int) m (N : Int) s2) _
    rw [k_X10_mostAlike_5, e31]
    exact Rt_neg (by omega) (Rt_some ⟨e2', rfl⟩)
theorem malike_spec {v : LV} {μ s : GM} (h : InvV v μ) (o : ofr PM FM μ s) {N : Nat} (hN : μ.2 31 2 = N) {S : Int} (hS : setL v μ S N) (hr : RowM v μ s N) {c : Nat} (hc : c < nn v 0) : f_X12_alikeOf S (c : Int) s = some (mon v μ S c N N, s) := by
  have w5 := h.2.2.2.2.1.2.1
  have hN5 : N ≤ 5 := by omega
  have n6' := n6 h.1.2.2.1
  have e37 : s.2 53 37 = N := by rw [o.2 53 37 (by unfold FM; omega), ← h.2.2.2.2.1.1, hN]
  have rd : ∀ j, j < N → bt S j → s.1 87 (ix j c) = wM (wld v μ j) c := fun j hj hb => hr j hj ((hS.2 j (by omega)).mp hb).2 c hc
  have main : Rt (f_X12_alikeOf S (c : Int) s) (fun r s' => r = mon v μ S c N N ∧ s' = s) := by
    unfold f_X12_alikeOf
    refine Rt_loop (fun f w (q : Int × GM) => k_X12_alikeOf_5 f S (c : Int) q.1 w q.2) _ N (fun w q => q.2 = s ∧ q.1 = mon v μ S c N w) ?_ ?_ FU 0 (0, s) (by omega) (FU_gt (by omega)) ⟨rfl, rfl⟩
    · intro f w q hw ⟨e1, e2⟩ hnext
      obtain ⟨m, s2⟩ := q
      have e1' : s2 = s := e1
      have e2' : m = mon v μ S c N w := e2
      subst e1'; subst e2'
      show Rt (k_X12_alikeOf_5 (f + 1) S (c : Int) _ (w : Int) s2) _
      rw [k_X12_alikeOf_5, e37]
      refine Rt_pos (by omega) ?_
      have mb := mon_b v μ S c N w
      refine Rt_loop (fun f' u (q : Int × GM) => k_X12_alikeOf_20 (k_X12_alikeOf_5 f) f' S (c : Int) (mon v μ S c N w) (w : Int) q.1 u q.2) _ N (fun u q => q.2 = s2 ∧ q.1 = (if bt S w then lkn v μ S c w u else 0)) ?_ ?_ FU 0 (0, s2) (by omega) (FU_gt (by omega)) ⟨rfl, by split <;> rfl⟩
      · intro f2 u q hu ⟨e3, e5⟩ hnext2
        obtain ⟨k, s3⟩ := q
        have e3' : s3 = s2 := e3
        subst e3'
        have e5' : k = (if bt S w then lkn v μ S c w u else 0) := e5
        have kb : 0 ≤ k ∧ k ≤ 6 := by
          have := lkn_b v μ S c w u
          rw [e5']; split <;> omega
        have es : lkn v μ S c w (u + 1) = lkn v μ S c w u + (if bt S u ∧ wM (wld v μ u) c = wM (wld v μ w) c then 1 else 0) := rfl
        have st := s_two hS.1 (i := w) (j := u) (by omega) (by omega)
        show Rt (k_X12_alikeOf_20 (k_X12_alikeOf_5 f) (f2 + 1) S (c : Int) (mon v μ S c N w) (w : Int) k (u : Int) s3) _
        rw [k_X12_alikeOf_20, e37]
        refine Rt_pos (by omega) ?_
        by_cases qq : bt S w ∧ bt S u
        · refine Rt_pos (st.mpr qq) ?_
          rw [w32_6 (i := w) (j := c) (by omega) (by omega), w32_6 (i := u) (j := c) (by omega) (by omega)]
          refine Rt_ck (by unfold ix; omega) (Rt_ck (by unfold ix; omega) ?_)
          rw [rd w hw qq.1, rd u hu qq.2]
          refine Rt_if (fun g => Rt_lt (Rt_lt ?_)) (fun g => Rt_lt (Rt_lt ?_))
          · rw [w32s (by omega), w32i (by omega) (by omega)]
            refine hnext2 (k + 1, s3) ⟨rfl, ?_⟩
            show k + 1 = _
            rw [if_pos qq.1] at e5' ⊢
            rw [es, if_pos ⟨qq.2, g.symm⟩, e5']
          · rw [w32s (by omega), w32i (by omega) (by omega)]
            refine hnext2 (k + 0, s3) ⟨rfl, ?_⟩
            show k + 0 = _
            rw [if_pos qq.1] at e5' ⊢
            rw [es, if_neg (fun z => g z.2.symm), e5']
        · refine Rt_neg (fun z => qq (st.mp z)) (Rt_lt (Rt_lt ?_))
          rw [w32s (by omega), w32i (by omega) (by omega)]
          refine hnext2 (k + 0, s3) ⟨rfl, ?_⟩
          show k + 0 = _
          by_cases qw : bt S w
          · rw [if_pos qw] at e5' ⊢
            rw [es, if_neg (fun z => qq ⟨qw, z.1⟩), e5']
          · rw [if_neg qw] at e5' ⊢
            rw [e5']; rfl
      · intro f2 q ⟨e3, e5⟩
        obtain ⟨k, s3⟩ := q
        have e3' : s3 = s2 := e3
        subst e3'
        have e5' : k = (if bt S w then lkn v μ S c w N else 0) := e5
        show Rt (k_X12_alikeOf_20 (k_X12_alikeOf_5 f) (f2 + 1) S (c : Int) (mon v μ S c N w) (w : Int) k (N : Int) s3) _
        rw [k_X12_alikeOf_20, e37]
        refine Rt_neg (by omega) ?_
        have nm : mon v μ S c N (w + 1) = if mon v μ S c N w < k then k else mon v μ S c N w := by
          show (if bt S w then _ else _) = _
          rw [e5']
          by_cases qw : bt S w
          · rw [if_pos qw, if_pos qw]
          · rw [if_neg qw, if_neg qw, if_neg (by omega)]
        refine Rt_if (fun g => Rt_lt ?_) (fun g => Rt_lt ?_)
        · rw [w32s (by omega)]
          refine hnext (k, s3) ⟨rfl, ?_⟩
          show k = mon v μ S c N (w + 1)
          rw [nm, if_pos g]
        · rw [w32s (by omega)]
          refine hnext (mon v μ S c N w, s3) ⟨rfl, ?_⟩
          show mon v μ S c N w = mon v μ S c N (w + 1)
          rw [nm, if_neg g]
    · intro f q ⟨e1, e2⟩
      obtain ⟨m, s2⟩ := q
      have e1' : s2 = s := e1
      have e2' : m = mon v μ S c N N := e2
      subst e1'
      show Rt (k_X12_alikeOf_5 (f + 1) S (c : Int) m (N : Int) s2) _
      rw [k_X12_alikeOf_5, e37]
      exact Rt_neg (by omega) (Rt_some ⟨e2', rfl⟩)
  obtain ⟨a, b, e1, e2, e3⟩ := main
  rw [e1, e2, e3]
theorem mon_k {v : LV} {μ ν : GM} (sc : ScOK v μ ν) (S : Int) (c N : Nat) : ∀ w, mon v ν S c N w = mon v μ S c N w := by
  have el : ∀ w z, lkn v ν S c w z = lkn v μ S c w z := fun w z => by
    unfold lkn
    refine sumn_congr (fun u _ => ?_)
    rw [wld_k sc, wld_k sc]
  intro w
  induction w with
  | zero => rfl
  | succ w ih => unfold mon; rw [ih, el]
theorem ok_alike {v : LV} {μ : GM} (h : InvV v μ) (z : Int) : PrOK (f_X11_alike z) (f_X12_alike z) μ := by
  have hv := h.1.2.2.1
  have n0 := nn_c hv 0 (by omega)
  have w5 := h.2.2.2.2.1.2.1
  obtain ⟨N, hN⟩ : ∃ N : Nat, μ.2 31 2 = N := ⟨(μ.2 31 2).toNat, by omega⟩
  obtain ⟨h1, s1⟩ := inv_thr h
  unfold PrOK f_X11_alike
  by_cases q : 0 ≤ z ∧ z < v.2 0
  · obtain ⟨c, hc⟩ : ∃ c : Nat, z = c := ⟨z.toNat, by omega⟩
    subst hc
    refine Rt_bde (hasCell_y (lcN0 h.1.1) q) (Rt_neg (by decide) (Rt_bd (left_spec h hN) (fun S s ⟨sc, hs, hr⟩ => Rt_bd (calike_spec h sc hN hs hr (c := c) (by omega)) (fun r s2 ⟨e1, e2⟩ => Rt_some ?_))))
    subst e1; subst e2
    have i1 := h.sc sc
    obtain ⟨j1, t1⟩ := inv_thr i1
    have sc2 := sc.trans t1
    have hN2 : (gF s2 53 0 0).2 31 2 = N := by rw [(sc_arr sc2).2.2.2.2]; exact hN
    unfold f_X12_alike
    refine Rt_lm (Rt_bde (noCell_y (lmN0 j1.1.2.1) (lim0 hv) q) (Rt_pos rfl (Rt_bd (mleft_spec j1 hN2) (fun S2 s3 ⟨o3, g3, r3⟩ => ?_))))
    have eS := setL_eq sc2 hs g3
    subst eS
    refine Rt_bde (malike_spec j1 o3 hN2 g3 r3 (c := c) (by omega)) (Rt_some ⟨mon_k sc2 _ _ _ _, v, j1.sc ((ScOK.refl j1).m o3)⟩)
  · refine Rt_bde (hasCell_n (lcN0 h.1.1) q) (Rt_pos rfl (Rt_some ?_))
    unfold f_X12_alike
    exact Rt_lm (Rt_bde (noCell_n (lmN0 h1.1.2.1) (lim0 hv) q) (Rt_neg (by decide) (ref_m h)))
