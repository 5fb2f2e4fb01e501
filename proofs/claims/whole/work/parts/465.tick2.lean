/-! ticks, pouring, counting: both sides alike -/
theorem ok_tick {v : LV} {μ : GM} (h : InvV v μ) (n : Int) : PrOK (f_X11_tick n) (f_X12_tick n) μ := by
  obtain ⟨h1, s1⟩ := inv_thr h
  have hv := h.1.2.2.1
  have hx := h.1.2.2.2
  unfold PrOK f_X11_tick
  by_cases q : 1 ≤ n ∧ n ≤ 100
  · refine Rt_bde (out_y q) (Rt_pos rfl ?_)
    -- both sides, from any memories that are alike
    have both : ∀ μ0 ν0, cV 22 μ0 = v → mV 59 70 ν0 = v → TT μ0 ν0 → RR (k_X11_tick_15 FU n 0 μ0) (k_X12_tick_22 FU n 0 ν0) (fun r μ' r' ν' => r' = r ∧ STk μ0 ν0 μ' ν') := by
      intro μ0 ν0 hc hm ht
      obtain ⟨N, hN⟩ : ∃ N : Nat, n = N := ⟨n.toNat, by omega⟩
      subst hN
      refine RR_loop (fun f z s => k_X11_tick_15 f (N : Int) z s) (fun f z s => k_X12_tick_22 f (N : Int) z s) _ N (fun z s t => STk μ0 ν0 s t) ?_ ?_ FU FU 0 μ0 ν0 (by omega) (FU_gt (by omega)) (FU_gt (by omega)) ⟨ofr.rfl, ofr.rfl, ht⟩
      · intro f f' z s t hz hs hnext
        show RR (k_X11_tick_15 (f + 1) (N : Int) (z : Int) s) (k_X12_tick_22 (f' + 1) (N : Int) (z : Int) t) _
        rw [k_X11_tick_15, k_X12_tick_22]
        refine RR_posl (by omega) (RR_posr (by omega) (RR_bd (tick_rr hv hx hc hm hs) (fun _ μ' _ ν' hp => RR_ltl (RR_ltr ?_))))
        rw [w32s (by omega)]
        exact hnext _ _ hp
      · intro f f' s t hs
        show RR (k_X11_tick_15 (f + 1) (N : Int) (N : Int) s) (k_X12_tick_22 (f' + 1) (N : Int) (N : Int) t) _
        rw [k_X11_tick_15, k_X12_tick_22]
        refine RR_negl (by omega) (RR_negr (by omega) ?_)
        obtain ⟨r, a, r', b, e1, e2, e3, e4, e5⟩ := allHeld_rr hv hc hm hs
        subst e3; subst e4; subst e5
        refine RR_bdl e1 ?_
        rw [e2]
        exact RR_some ⟨rfl, hs⟩
    have ht0 : TT μ (gF μ 53 0 0) := by
      obtain ⟨c1, c2, c3, c4⟩ := h.2.2.2.1
      exact ⟨c1, c2, c3, c4⟩
    obtain ⟨r, μ1, r', ν1, e1, e2, -, hs1⟩ := both μ (gF μ 53 0 0) h.1.1 h1.1.2.1 ht0
    refine ⟨r, μ1, e1, ?_⟩
    -- the same again, the other side now upon what the one side left
    have m1 : mV 59 70 (gF μ1 53 0 0) = v := by
      rw [mVo0]
      exact (mV_keep hs1.1 (fun k hk hk2 => by unfold PTc; omega) (fun _ _ _ z => z) (by unfold PTc; omega) (by unfold PTc; omega)).trans h.1.2.1
    have t1 : TT μ (gF μ1 53 0 0) := by
      obtain ⟨c1, c2, c3, c4⟩ := h.2.2.2.1
      refine ⟨?_, ?_, c3, c4⟩
      · rw [gF_1, hs1.1.1 79 (by unfold PTc; omega)]; exact c1
      · rw [gF_1, hs1.1.1 81 (by unfold PTc; omega)]; exact c2
    obtain ⟨r2, μ2, r3, ν2, g1, g2, g3, hs2⟩ := both μ (gF μ1 53 0 0) h.1.1 m1 t1
    rw [e1] at g1
    obtain ⟨rfl, rfl⟩ : r = r2 ∧ μ1 = μ2 := by
      have := Option.some.inj g1
      exact ⟨congrArg Prod.fst this, congrArg Prod.snd this⟩
    unfold f_X12_tick
    refine Rt_lm (Rt_bde (in_y q) (Rt_neg (by decide) ⟨r3, ν2, g2, g3, v, ?_⟩))
    have o1 : ofr POt FOt μ ν2 := by
      have a1 : ofr POt FOt μ μ1 := hs1.1.mono (fun k hk => by unfold PTc at hk; unfold POt; omega) (fun _ _ z => z.elim)
      exact (a1.f (show FOt 53 0 by unfold FOt; omega)).trans (hs2.2.1.mono (fun k hk => by unfold PTm at hk; unfold POt; omega) (fun _ _ z => z.elim))
    have A : ∀ k, ¬ PTc k → ¬ PTm k → ν2.1 k = μ.1 k := fun k a b => by rw [hs2.2.1.1 k b, gF_1, hs1.1.1 k a]
    have F : ∀ k j, ¬ (k = 53 ∧ j = 0) → ν2.2 k j = μ.2 k j := fun k j a => by rw [hs2.2.1.2 k j (fun z => z), gF_ne _ _ a, hs1.1.2 k j (fun z => z)]
    have h0 := h
    obtain ⟨-, -, -, c, w, s, p, qq⟩ := h
    have B : ∀ k, (k = 32 ∨ k = 33 ∨ k = 82 ∨ k = 83 ∨ k = 34 ∨ k = 35 ∨ k = 84 ∨ k = 85 ∨ k = 86 ∨ k = 43 ∨ k = 88 ∨ k = 48 ∨ k = 92) → ν2.1 k = μ.1 k := fun k hk => A k (by unfold PTc; omega) (by unfold PTm; omega)
    refine mkO h0 o1 ?_ (WI_k w (F _ _ (by decide)) (F _ _ (by decide)) (B _ (by decide)) (B _ (by decide)) (B _ (by decide)) (B _ (by decide))) (SI_k s (B _ (by decide)) (B _ (by decide)) (B _ (by decide)) (B _ (by decide)) (B _ (by decide))) (PI_k p (F _ _ (by decide)) (F _ _ (by decide)) (B _ (by decide)) (B _ (by decide))) (QI_k qq (B _ (by decide)) (B _ (by decide)))
    obtain ⟨t1, t2, t3, t4⟩ := hs2.2.2
    have e28 : ν2.1 28 = μ1.1 28 := by rw [hs2.2.1.1 28 (by unfold PTm; omega), gF_1]
    have e29 : ν2.1 29 = μ1.1 29 := by rw [hs2.2.1.1 29 (by unfold PTm; omega), gF_1]
    unfold CI
    rw [e28, e29]
    exact ⟨t1, t2, t3, t4⟩
  · refine Rt_bde (out_n q) (Rt_neg (by decide) (Rt_some ?_))
    unfold f_X12_tick
    exact Rt_lm (Rt_bde (in_n q) (Rt_pos rfl (ref_m h)))
theorem fillL2_spec {a : Nat} {N : Nat} (hN : gLen a = N) (hN2 : N < 1000) (x : Int) (μ0 : GM) : Rt (f_J7_fill_d0a16 a x μ0) (fun _ μ => ofr (fun k => k = a) nF μ0 μ ∧ μ.1 a = fun (i : Int) => if 0 ≤ i ∧ i < (N : Int) then x else μ0.1 a i) := by
  unfold f_J7_fill_d0a16
  refine Rt_lt ?_
  rw [hN]
  refine Rt_loop (fun f z s => k_J7_fill_d0a16_6 a f x z (N : Int) s) _ N (fun z s => ofr (fun k => k = a) nF μ0 s ∧ s.1 a = fun (i : Int) => if 0 ≤ i ∧ i < (z : Int) then x else μ0.1 a i) ?_ ?_ FU 0 μ0 (by omega) (FU_gt (by omega)) ⟨ofr.rfl, by funext i; rw [if_neg (by omega)]⟩
  · intro f z s hz ⟨hs, hv⟩ hnext
    show Rt (k_J7_fill_d0a16_6 a (f + 1) x (z : Int) (N : Int) s) _
    rw [k_J7_fill_d0a16_6]
    refine Rt_pos (by omega) (Rt_ck (by rw [hN]; omega) (Rt_lm (Rt_lt ?_)))
    rw [w32s (by omega)]
    refine hnext _ ⟨hs.a (Eq.refl a), ?_⟩
    rw [upd_fun hv]
    funext i
    by_cases e : i = (z : Int)
    · rw [if_pos e, if_pos (by omega)]
    · rw [if_neg e]
      by_cases e2 : 0 ≤ i ∧ i < z
      · rw [if_pos e2, if_pos (by omega)]
      · rw [if_neg e2, if_neg (by omega)]
  · intro f s ⟨hs, hv⟩
    show Rt (k_J7_fill_d0a16_6 a (f + 1) x (N : Int) (N : Int) s) _
    rw [k_J7_fill_d0a16_6]
    exact Rt_neg (by omega) (Rt_some ⟨hs, hv⟩)
theorem ok_pour {v : LV} {μ : GM} (h : InvV v μ) (z x : Int) : PrOK (f_X11_pour z x) (f_X12_pour z x) μ := by
  obtain ⟨h1, s1⟩ := inv_thr h
  have hv := h.1.2.2.1
  have l0 := hv.1
  unfold PrOK f_X11_pour
  by_cases q : 0 ≤ z ∧ z < v.2 0
  · refine Rt_bde (hasCell_y (lcN0 h.1.1) q) (Rt_neg (by decide) ?_)
    by_cases qx : 0 ≤ x ∧ x ≤ 1000000
    · refine Rt_bde (out_y qx) (Rt_pos rfl ?_)
      have hb : Rt (f_X0_beginBooks μ) (fun _ μ1 => ofr (fun k => k = 29) nF μ μ1 ∧ μ1.1 29 = fun (i : Int) => if 0 ≤ i ∧ i < ((6 : Nat) : Int) then 0 else μ.1 29 i) := by
        unfold f_X0_beginBooks
        exact Rt_bd (fillL2_spec (a := 29) (N := 6) (by decide +kernel) (by omega) 0 μ) (fun _ μ1 hk => Rt_some hk)
      refine Rt_bd hb (fun _ μ1 ⟨k1, k2⟩ => Rt_bde (exch_eq (N := 6) (by decide +kernel) (by omega)) (Rt_some ?_))
      unfold f_X12_pour
      have m1 : mV 59 70 (gF (gA μ1 28 z x) 53 0 0) = v := by
        rw [mVo0, mVo _ _ _ (by omega)]
        exact (mV_keep k1 (fun k hk hk2 => by omega) (fun _ _ _ z => z) (by omega) (by omega)).trans h.1.2.1
      refine Rt_lm (Rt_bde (noCell_y (lmN0 m1) (lim0 hv) q) (Rt_pos rfl (Rt_bde (in_y qx) (Rt_neg (by decide) (Rt_ck (by omega) (Rt_lt (Rt_ck (by omega) (Rt_lm ?_))))))))
      have ea : (gF (gA μ1 28 z x) 53 0 0).1 79 z = μ1.1 28 z := by
        rw [gF_1, gA_nk _ _ _ (by decide), k1.1 79 (by omega), k1.1 28 (by omega), h.2.2.2.1.1]
      rw [ea]
      obtain ⟨ν0, hν0⟩ : ∃ ν0, ν0 = gA (gF (gA μ1 28 z x) 53 0 0) 79 z x := ⟨_, rfl⟩
      rw [← hν0]
      refine Rt_loop (fun f w s => k_X12_pour_48 f (μ1.1 28 z) w s) _ 6 (fun w s => ofr (fun k => k = 81) nF ν0 s ∧ s.1 81 = fun (i : Int) => if 0 ≤ i ∧ i < (w : Int) then 0 else ν0.1 81 i) ?_ ?_ FU 0 ν0 (by omega) (FU_gt (by omega)) ⟨ofr.rfl, by funext i; rw [if_neg (by omega)]⟩
      · intro f w s hw ⟨hs, hv2⟩ hnext
        show Rt (k_X12_pour_48 (f + 1) (μ1.1 28 z) (w : Int) s) _
        rw [k_X12_pour_48]
        refine Rt_pos (by omega) (Rt_ck (by omega) (Rt_lm (Rt_lt ?_)))
        rw [w32s (by omega)]
        refine hnext _ ⟨hs.a (Eq.refl 81), ?_⟩
        rw [upd_fun hv2]
        funext i
        by_cases e : i = (w : Int)
        · rw [if_pos e, if_pos (by omega)]
        · rw [if_neg e]
          by_cases e2 : 0 ≤ i ∧ i < (w : Int)
          · rw [if_pos e2, if_pos (by omega)]
          · rw [if_neg e2, if_neg (by omega)]
      · intro f s ⟨hs, hv2⟩
        show Rt (k_X12_pour_48 (f + 1) (μ1.1 28 z) ((6 : Nat) : Int) s) _
        rw [k_X12_pour_48]
        refine Rt_neg (by omega) (Rt_some ⟨rfl, v, ?_⟩)
        have o1 : ofr POt FOt μ s := by
          have a1 : ofr POt FOt μ μ1 := k1.mono (fun k hk => by unfold POt; omega) (fun _ _ z => z.elim)
          have a2 : ofr POt FOt μ ν0 := by rw [hν0]; exact ((a1.a (show POt 28 by unfold POt; omega)).f (show FOt 53 0 by unfold FOt; omega)).a (show POt 79 by unfold POt; omega)
          exact a2.trans (hs.mono (fun k hk => by unfold POt; omega) (fun _ _ z => z.elim))
        have A : ∀ k, k ≠ 28 → k ≠ 29 → k ≠ 79 → k ≠ 81 → s.1 k = μ.1 k := fun k a b c d => by rw [hs.1 k d, hν0, gA_nk _ _ _ c, gF_1, gA_nk _ _ _ a, k1.1 k b]
        have F : ∀ k j, ¬ (k = 53 ∧ j = 0) → s.2 k j = μ.2 k j := fun k j a => by rw [hs.2 k j (fun z => z), hν0, gA_2, gF_ne _ _ a, gA_2, k1.2 k j (fun z => z)]
        have h0 := h
        obtain ⟨-, -, -, c, w, si, p, qq⟩ := h
        have B : ∀ k, (k = 32 ∨ k = 33 ∨ k = 82 ∨ k = 83 ∨ k = 34 ∨ k = 35 ∨ k = 84 ∨ k = 85 ∨ k = 86 ∨ k = 43 ∨ k = 88 ∨ k = 48 ∨ k = 92) → s.1 k = μ.1 k := fun k hk => A k (by omega) (by omega) (by omega) (by omega)
        refine mkO h0 o1 ?_ (WI_k w (F _ _ (by decide)) (F _ _ (by decide)) (B _ (by decide)) (B _ (by decide)) (B _ (by decide)) (B _ (by decide))) (SI_k si (B _ (by decide)) (B _ (by decide)) (B _ (by decide)) (B _ (by decide)) (B _ (by decide))) (PI_k p (F _ _ (by decide)) (F _ _ (by decide)) (B _ (by decide)) (B _ (by decide))) (QI_k qq (B _ (by decide)) (B _ (by decide)))
        have e28 : s.1 28 = fun i => if i = z then x else μ.1 28 i := by
          rw [hs.1 28 (by omega), hν0, gA_nk _ _ _ (by decide), gF_1]; exact upd_fun (k1.1 28 (by omega))
        have e79 : s.1 79 = fun i => if i = z then x else μ.1 28 i := by
          rw [hs.1 79 (by omega), hν0]; exact upd_fun (by rw [gF_1, gA_nk _ _ _ (by decide), k1.1 79 (by omega), c.1])
        have e29 : s.1 29 = fun (i : Int) => if 0 ≤ i ∧ i < ((6 : Nat) : Int) then 0 else μ.1 29 i := by
          rw [hs.1 29 (by omega), hν0, gA_nk _ _ _ (by decide), gF_1, gA_nk _ _ _ (by decide)]; exact k2
        have e81 : s.1 81 = fun (i : Int) => if 0 ≤ i ∧ i < ((6 : Nat) : Int) then 0 else μ.1 29 i := by
          rw [hv2, hν0, gA_nk _ _ _ (by decide), gF_1, gA_nk _ _ _ (by decide), k1.1 81 (by omega), ← c.2.1]
        unfold CI
        rw [e28, e79, e29, e81]
        refine ⟨rfl, rfl, fun d => ?_, fun i => ?_⟩
        · show 0 ≤ (if d = z then x else μ.1 28 d) ∧ (if d = z then x else μ.1 28 d) ≤ 1000000
          split
          · exact qx
          · exact c.2.2.1 d
        · show r64 (if 0 ≤ i ∧ i < ((6 : Nat) : Int) then 0 else μ.1 29 i)
          split
          · exact ⟨by decide, by decide⟩
          · exact c.2.2.2 i
    · refine Rt_bde (out_n qx) (Rt_neg (by decide) (Rt_some ?_))
      unfold f_X12_pour
      exact Rt_lm (Rt_bde (noCell_y (lmN0 h1.1.2.1) (lim0 hv) q) (Rt_pos rfl (Rt_bde (in_n qx) (Rt_pos rfl (ref_m h)))))
  · refine Rt_bde (hasCell_n (lcN0 h.1.1) q) (Rt_pos rfl (Rt_some ?_))
    unfold f_X12_pour
    exact Rt_lm (Rt_bde (noCell_n (lmN0 h1.1.2.1) (lim0 hv) q) (Rt_neg (by decide) (ref_m h)))
