/-! draw -/
def drf (v : LV) (k : Nat) (z : Int) : Int → Int := fun i => if 0 ≤ i ∧ i < z then rtn v k i else v.1 16 i
theorem drf_wf {v : LV} (hv : wfL v) (hx : wfX v) (k : Nat) : wfL (wrt v (drf v k (v.2 4))) ∧ wfX (wrt v (drf v k (v.2 4))) := by
  have n4 := nn_c hv 4 (by omega)
  have e : ∀ w : Nat, w < nn v 4 → drf v k (v.2 4) w = rtn v k w := fun w hw => by unfold drf; rw [if_pos (by omega)]
  refine ⟨wf_wrt hv (fun w hw => ?_), hx.1, fun w hw => ⟨(hx.2.1 w hw).1, (hx.2.1 w hw).2.1, ?_⟩, fun w hw => ?_⟩
  · rw [e w hw]; have := rtn_b hv hx k hw; omega
  · show drf v k (v.2 4) w ≤ v.1 14 w
    rw [e w hw]; exact (rtn_b hv hx k hw).2.1
  · have hw : nn v 4 ≤ w := hw
    show drf v k (v.2 4) w = 0
    unfold drf
    rw [if_neg (by omega)]; exact hx.2.2 w hw
theorem draw_inv {v : LV} {s ν : GM} {f : Int → Int} (h : InvV v s) (hf : wfL (wrt v f)) (hx : wfX (wrt v f)) (o : ofr (fun k => PM k ∨ k = 22 ∨ k = 70) FM s ν) (e22 : ν.1 22 = f) (e70 : ν.1 70 = f) : InvV (wrt v f) ν := by
  obtain ⟨κ, hκ⟩ : ∃ κ : GM, κ = (fun k => if k = 22 ∨ k = 70 then f else s.1 k, s.2) := ⟨_, rfl⟩
  have kk : ∀ k, ¬ (k = 22 ∨ k = 70) → κ.1 k = s.1 k := fun k hk => by rw [hκ]; exact if_neg hk
  have k2 : κ.2 = s.2 := by rw [hκ]
  have k22 : κ.1 22 = f := by rw [hκ]; rfl
  have k70 : κ.1 70 = f := by rw [hκ]; rfl
  have okap : ofr PLd FLd s κ := ⟨fun k hk => kk k (by unfold PLd at hk; omega), fun k j _ => by rw [k2]⟩
  have c1 : cV 22 κ = wrt v f := by
    have := h.1.1
    subst this
    rw [hκ]
    refine lv_ext (fun j => ?_) (fun j => rfl)
    rcases j with _ | _ | _ | _ | _ | _ | _ | _ | _ | _ | _ | _ | _ | _ | _ | _ | _ | j <;> rfl
  have c2 : mV 59 70 κ = wrt v f := by
    have := h.1.2.1
    subst this
    rw [hκ]
    refine lv_ext (fun j => ?_) (fun j => rfl)
    rcases j with _ | _ | _ | _ | _ | _ | _ | _ | _ | _ | _ | _ | _ | _ | _ | _ | _ | j <;> rfl
  have ca : cacheOK v 94 κ := cache_keep h.2.1.2.1 (kk _ (by omega)) (kk _ (by omega)) (fun z _ => kk _ (by omega))
  have ik : InvV (wrt v f) κ := mkInv h okap c1 c2 hf hx ca (Int.le_refl _) (Int.le_refl _) (Int.le_refl _)
  refine ik.sc ((ScOK.refl ik).m ⟨fun k hk => ?_, fun k j hk => ?_⟩)
  · by_cases q : k = 22
    · subst q; rw [e22, k22]
    by_cases q2 : k = 70
    · subst q2; rw [e70, k70]
    rw [o.1 k (fun z => by rcases z with z | z | z
                           · exact hk z
                           · exact q z
                           · exact q2 z), kk k (by omega)]
  · rw [o.2 k j hk, k2]
theorem ok_draw {v : LV} {μ : GM} (h : InvV v μ) : PrOK f_X11_draw f_X12_draw μ := by
  have hv := h.1.2.2.1
  have hx := h.1.2.2.2
  have n4 := nn_c hv 4 (by omega)
  have w4 := hv.2.2.2.2.1
  have hN := h.2.2.2.2.2.2.1.2.1
  unfold PrOK f_X11_draw
  refine Rt_bd (cbest hv hx hN h.clc) (fun r s ⟨sc, er, el⟩ => ?_)
  have i0 := h.sc sc
  obtain ⟨i1, sc0⟩ := inv_thr i0
  obtain ⟨t1, t2, t3⟩ := thr_f sc
  obtain ⟨N, eN⟩ : ∃ N, N = μ.2 42 2 := ⟨_, rfl⟩
  obtain ⟨sg, hs⟩ : ∃ sg, sg = μ.1 43 := ⟨_, rfl⟩
  obtain ⟨lim, hl⟩ : ∃ lim, lim = μ.1 48 := ⟨_, rfl⟩
  rw [← eN] at t1 hN er el
  rw [← hs] at t2 er el
  rw [← hl] at t3 er el
  obtain ⟨B, hB⟩ : ∃ B, B = bpl v lim sg N (5 ^ nn v 4) := ⟨_, rfl⟩
  rw [← hB] at er el
  refine Rt_if (fun c => Rt_some ?_) (fun c => ?_)
  · have mb := mb_inv i1 t1 t2 t3
    rw [← hB] at mb
    unfold f_X12_draw
    refine Rt_lm (Rt_bd mb (fun _ s2 ⟨o2, e50, _⟩ => Rt_pos (by rw [e50, ← er]; exact c) (Rt_some ⟨c.symm, v, i1.sc ((ScOK.refl i1).m o2)⟩)))
  have hk := bpl_lt v lim sg N (5 ^ nn v 4) (by rw [← hB, ← er]; exact c)
  rw [← hB] at hk
  have hC := code_lt (show nn v 4 < 4 by omega) hk
  have el := el c
  refine Rt_loop (fun f z t => k_X11_draw_16 f r z t) _ (nn v 4) (fun z t => ofr (fun k => k = 22) nF s t ∧ ∀ i : Int, t.1 22 i = drf v B.2.2 z i) ?_ ?_ FU 0 s (by omega) (FU_gt (by omega)) ⟨ofr.rfl, fun i => ?_⟩
  · intro f z t hz ⟨o, e⟩ hnext
    show Rt (k_X11_draw_16 (f + 1) r (z : Int) t) _
    have e18 : t.2 18 0 = v.2 4 := by rw [o.2 18 0 (fun z => z)]; exact lcN4 i0.1.1
    have e20 : t.1 20 = v.1 14 := by rw [o.1 20 (by omega)]; exact lcA14 i0.1.1
    have e49 : t.1 49 z = ((lvn (nn v 4) z B.2.2 : Nat) : Int) := by rw [o.1 49 (by omega)]; exact el z hz
    have cb := cap_b (hx.2.1 z hz).1 (lvn_lt (nn v 4) z B.2.2)
    rw [k_X11_draw_16, e18, e49]
    have er2 : f_X9_rateAt (z : Int) ((lvn (nn v 4) z B.2.2 : Nat) : Int) t = some (rtn v B.2.2 z, t) := by
      unfold f_X9_rateAt
      rw [ck_pos (by omega), ck_pos (by decide), e20, w32i (x := v.1 14 (z : Int) * ((lvn (nn v 4) z B.2.2 : Nat) : Int)) (by omega) (by omega), tdiv_pos (by omega), w32i (by omega) (by omega), rtn_at hv B.2.2 hz]
    refine Rt_pos (by omega) (Rt_ck (by omega) (Rt_bde er2 (Rt_ck (by omega) (Rt_lm (Rt_lt ?_)))))
    rw [w32s (by omega)]
    refine hnext _ ⟨o.a rfl, fun i => ?_⟩
    rw [gA_at, e i]
    unfold drf
    by_cases qi : i = z
    · rw [if_pos qi, if_pos (by omega), qi]
    · rw [if_neg qi]
      by_cases q2 : 0 ≤ i ∧ i < (z : Int)
      · rw [if_pos q2, if_pos (by omega)]
      · rw [if_neg q2, if_neg (by omega)]
  · intro f t ⟨o, e⟩
    show Rt (k_X11_draw_16 (f + 1) r ((nn v 4 : Nat) : Int) t) _
    have e18 : t.2 18 0 = v.2 4 := by rw [o.2 18 0 (fun z => z)]; exact lcN4 i0.1.1
    rw [k_X11_draw_16, e18]
    refine Rt_neg (by omega) (Rt_some ?_)
    have e22 : t.1 22 = drf v B.2.2 (v.2 4) := by funext i; rw [e i, n4]
    have oT : ofr (fun k => k = 22) (fun k j => k = 53 ∧ j = 0) s (gF t 53 0 0) := (o.mono (fun k hk => hk) (fun _ _ z => z.elim)).f ⟨rfl, rfl⟩
    have hp := i0.2.2.2.2.2.2.1
    have m0 : mV 59 70 (gF t 53 0 0) = v := (mV_keep oT (fun k _ _ => by omega) (fun j _ _ => by omega) (by omega) (by omega)).trans i0.1.2.1
    have u42 : s.2 42 2 = N := (sc.1.2 42 2 (by unfold FSc; omega)).trans eN.symm
    have u43 : s.1 43 = sg := (sc.1.1 43 (by unfold PSc; omega)).trans hs.symm
    have u48 : s.1 48 = lim := (sc.1.1 48 (by unfold PSc; omega)).trans hl.symm
    have mb := mbest (N := N) (sg := sg) (lim := lim) hv hx hN m0 (by rw [oT.2 53 44 (by omega), ← hp.1]; exact u42) (by rw [oT.1 88 (by omega), ← hp.2.2.1]; exact u43) (by rw [oT.1 92 (by omega), ← i0.2.2.2.2.2.2.2.1]; exact u48) (fun i hi => by rw [← u43]; exact hp.2.2.2 i (by rw [u42]; exact hi))
    rw [← hB] at mb
    unfold f_X12_draw
    refine Rt_lm (Rt_bd mb (fun _ s2 ⟨o2, e50, e52⟩ => Rt_neg (by rw [e50, ← er]; exact c) ?_))
    rw [e52 (by rw [e50, ← er]; exact c)]
    refine Rt_bd (drawM hv hx hC rfl (by rw [o2.1 68 (by unfold PM; omega)]; exact lmA14 m0)) (fun _ s3 ⟨o3, r73⟩ => ?_)
    have g18 : s3.2 53 18 = v.2 4 := by rw [o3.2 53 18 (fun z => z), o2.2 53 18 (by unfold FM; omega)]; exact lmN4 m0
    have g70 : s3.1 70 = v.1 16 := by rw [o3.1 70 (by unfold P73; omega), o2.1 70 (by unfold PM; omega)]; exact lmA16 m0
    have g50 : s3.2 53 50 = r := by rw [o3.2 53 50 (fun z => z), e50, er]
    refine Rt_loop (fun f z u => k_X12_draw_31 f z u) _ (nn v 4) (fun z u => ofr (fun k => k = 70) nF s3 u ∧ ∀ i : Int, u.1 70 i = drf v B.2.2 z i) ?_ ?_ FU 0 s3 (by omega) (FU_gt (by omega)) ⟨ofr.rfl, fun i => ?_⟩
    · intro f z u hz ⟨o4, e4⟩ hnext
      show Rt (k_X12_draw_31 (f + 1) (z : Int) u) _
      rw [k_X12_draw_31, o4.2 53 18 (fun z => z), g18, o4.1 73 (by omega), r73 z hz]
      refine Rt_pos (by omega) (Rt_ck (by omega) (Rt_ck (by omega) (Rt_lm (Rt_lt ?_))))
      rw [w32s (by omega)]
      refine hnext _ ⟨o4.a rfl, fun i => ?_⟩
      rw [gA_at, e4 i]
      unfold drf
      by_cases qi : i = z
      · rw [if_pos qi, if_pos (by omega), qi]
      · rw [if_neg qi]
        by_cases q2 : 0 ≤ i ∧ i < (z : Int)
        · rw [if_pos q2, if_pos (by omega)]
        · rw [if_neg q2, if_neg (by omega)]
    · intro f u ⟨o4, e4⟩
      show Rt (k_X12_draw_31 (f + 1) ((nn v 4 : Nat) : Int) u) _
      rw [k_X12_draw_31, o4.2 53 18 (fun z => z), g18]
      refine Rt_neg (by omega) (Rt_some ⟨by rw [o4.2 53 50 (fun z => z)]; exact g50, wrt v (drf v B.2.2 (v.2 4)), ?_⟩)
      have w := drf_wf hv hx B.2.2
      refine draw_inv i0 w.1 w.2 ?_ ?_ ?_
      · refine (((oT.mono (fun k hk => Or.inr (Or.inl hk)) (fun k j hk => by unfold FM; omega)).trans (o2.mono (fun k hk => Or.inl hk) (fun _ _ z => z))).trans (o3.mono (fun k hk => Or.inl (by unfold P73 at hk; unfold PM; omega)) (fun _ _ z => z.elim))).trans (o4.mono (fun k hk => Or.inr (Or.inr hk)) (fun _ _ z => z.elim))
      · rw [o4.1 22 (by omega), o3.1 22 (by unfold P73; omega), o2.1 22 (by unfold PM; omega), gF_1]; exact e22
      · funext i; rw [e4 i, n4]
    · show s3.1 70 i = _
      unfold drf
      rw [if_neg (by omega), g70]
  · show s.1 22 i = _
    unfold drf
    rw [if_neg (by omega), lcA16 i0.1.1]
