/-! worth, level, price -/
theorem mb_inv {v : LV} {μ : GM} (h : InvV v μ) {N : Int} {sg lim : Int → Int} (hN : μ.2 42 2 = N) (hs : μ.1 43 = sg) (hl : μ.1 48 = lim) : Rt (f_X12_plan μ) (fun _ s => ofr PM FM μ s ∧ s.2 53 50 = (bpl v lim sg N (5 ^ nn v 4)).1 ∧ (s.2 53 50 ≠ -10000009 → s.2 53 52 = ((5 ^ (3 - nn v 4) * (bpl v lim sg N (5 ^ nn v 4)).2.2 : Nat) : Int))) := by
  have hp := h.2.2.2.2.2.2.1
  have hq := h.2.2.2.2.2.2.2
  refine mbest h.1.2.2.1 h.1.2.2.2 ?_ h.1.2.1 ?_ ?_ ?_ (fun i hi => ?_)
  · rw [← hN]; exact hp.2.1
  · rw [← hp.1]; exact hN
  · rw [← hp.2.2.1]; exact hs
  · rw [← hq.1]; exact hl
  · rw [← hs]; exact hp.2.2.2 i (by rw [hN]; exact hi)
theorem thr_f {v : LV} {μ s : GM} (sc : ScOK v μ s) : (gF s 53 0 0).2 42 2 = μ.2 42 2 ∧ (gF s 53 0 0).1 43 = μ.1 43 ∧ (gF s 53 0 0).1 48 = μ.1 48 := by
  refine ⟨?_, ?_, ?_⟩
  · rw [gF_ne _ _ (by omega)]; exact sc.1.2 42 2 (by unfold FSc; omega)
  · exact sc.1.1 43 (by unfold PSc; omega)
  · exact sc.1.1 48 (by unfold PSc; omega)
theorem ok_worth {v : LV} {μ : GM} (h : InvV v μ) : PrOK f_X11_worth f_X12_worth μ := by
  unfold PrOK f_X11_worth
  refine Rt_bd (cbest h.1.2.2.1 h.1.2.2.2 h.2.2.2.2.2.2.1.2.1 h.clc) (fun r s ⟨sc, er, _⟩ => Rt_some ?_)
  obtain ⟨i1, sc0⟩ := inv_thr (h.sc sc)
  obtain ⟨t1, t2, t3⟩ := thr_f sc
  unfold f_X12_worth
  exact Rt_lm (Rt_bd (mb_inv i1 t1 t2 t3) (fun _ s2 ⟨o2, e50, _⟩ => Rt_some ⟨by rw [e50, er], v, i1.sc ((ScOK.refl i1).m o2)⟩))
theorem code_lt {n k : Nat} (hn : n < 4) (hk : k < 5 ^ n) : 5 ^ (3 - n) * k < 125 := by
  rcases (show n = 0 ∨ n = 1 ∨ n = 2 ∨ n = 3 by omega) with y | y | y | y <;> subst y
  · have hk : k < 1 := hk
    show 125 * k < 125; omega
  · have hk : k < 5 := hk
    show 25 * k < 125; omega
  · have hk : k < 25 := hk
    show 5 * k < 125; omega
  · have hk : k < 125 := hk
    show 1 * k < 125; omega
theorem ok_level {v : LV} {μ : GM} (h : InvV v μ) (z : Int) : PrOK (f_X11_level z) (f_X12_level z) μ := by
  have hv := h.1.2.2.1
  have n4 := nn_c hv 4 (by omega)
  have w4 := hv.2.2.2.2.1
  unfold PrOK f_X11_level
  by_cases q : 0 ≤ z ∧ z < v.2 4
  · refine Rt_bde (hasWell_y (lcN4 h.1.1) q) (Rt_neg (by decide) (Rt_bd (cbest hv h.1.2.2.2 h.2.2.2.2.2.2.1.2.1 h.clc) (fun r s ⟨sc, er, el⟩ => ?_)))
    obtain ⟨i1, sc0⟩ := inv_thr (h.sc sc)
    obtain ⟨t1, t2, t3⟩ := thr_f sc
    obtain ⟨B, hB⟩ : ∃ B, B = bpl v (μ.1 48) (μ.1 43) (μ.2 42 2) (5 ^ nn v 4) := ⟨_, rfl⟩
    have mb := mb_inv i1 t1 t2 t3
    rw [← hB] at er el mb
    refine Rt_if (fun c => Rt_some ?_) (fun c => Rt_ck (by omega) (Rt_some ?_))
    · unfold f_X12_level
      exact Rt_lm (Rt_bde (noWell_y (lmN4 i1.1.2.1) (by omega) q) (Rt_pos rfl (Rt_bd mb (fun _ s2 ⟨o2, e50, _⟩ => Rt_pos (by rw [e50, ← er]; exact c) (Rt_some ⟨rfl, v, i1.sc ((ScOK.refl i1).m o2)⟩)))))
    · have hk := bpl_lt v (μ.1 48) (μ.1 43) (μ.2 42 2) (5 ^ nn v 4) (by rw [← hB, ← er]; exact c)
      rw [← hB] at hk
      have hC := code_lt (show nn v 4 < 4 by omega) hk
      have el2 := el c z.toNat (by omega)
      rw [show ((z.toNat : Nat) : Int) = z by omega] at el2
      rw [el2]
      have dg := dig_eq (n := nn v 4) (w := z.toNat) (by omega) (by omega) B.2.2
      obtain ⟨C, eC⟩ : ∃ C, C = 5 ^ (3 - nn v 4) * B.2.2 := ⟨_, rfl⟩
      rw [← eC] at dg hC mb
      unfold f_X12_level
      refine Rt_lm (Rt_bde (noWell_y (lmN4 i1.1.2.1) (by omega) q) (Rt_pos rfl (Rt_bd mb (fun _ s2 ⟨o2, e50, e52⟩ => Rt_neg (by rw [e50, ← er]; exact c) ?_))))
      have iv : ∃ v, InvV v s2 := ⟨v, i1.sc ((ScOK.refl i1).m o2)⟩
      rw [e52 (by rw [e50, ← er]; exact c)]
      rcases (show z = 0 ∨ z = 1 ∨ z = 2 by omega) with y | y | y
      · subst y
        have dg : C / 25 % 5 = lvn (nn v 4) 0 B.2.2 := dg
        refine Rt_pos rfl (Rt_ck (by decide) (Rt_some ⟨?_, iv⟩))
        rw [tdiv_pos (by omega), w32i (by omega) (by omega), show ((0 : Int)).toNat = 0 by rfl, ← dg]; omega
      · subst y
        have dg : C / 5 % 5 = lvn (nn v 4) 1 B.2.2 := dg
        refine Rt_neg (by decide) (Rt_pos rfl (Rt_ck (by decide) (Rt_ck (by decide) (Rt_some ⟨?_, iv⟩))))
        rw [tdiv_pos (by omega), w32i (by omega) (by omega), tmod_pos (by omega), show ((1 : Int)).toNat = 1 by rfl, ← dg]; omega
      · subst y
        have dg : C / 1 % 5 = lvn (nn v 4) 2 B.2.2 := dg
        refine Rt_neg (by decide) (Rt_neg (by decide) (Rt_ck (by decide) (Rt_some ⟨?_, iv⟩)))
        rw [tmod_pos (by omega), show ((2 : Int)).toNat = 2 by rfl, ← dg]; omega
  · obtain ⟨i1, sc0⟩ := inv_thr h
    refine Rt_bde (hasWell_n (lcN4 h.1.1) q) (Rt_pos rfl (Rt_some ?_))
    unfold f_X12_level
    exact Rt_lm (Rt_bde (noWell_n (lmN4 i1.1.2.1) (by omega) q) (Rt_neg (by decide) (ref_m h)))
theorem ClC.l48 {v : LV} {N : Int} {sg lim lim2 : Int → Int} {s : GM} {z x : Int} (h : ClC v N sg lim s) (e : (gA s 48 z x).1 48 = lim2) : ClC v N sg lim2 (gA s 48 z x) := by
  have o : ofr (fun k => k = 48) nF s (gA s 48 z x) := ofr.rfl.a rfl
  obtain ⟨a1, a2, a3, a4, a5, a6⟩ := h
  refine ⟨?_, ⟨a2.1, ?_, a2.2.2⟩, a3, a4, ?_, e⟩
  · exact (cV_keep o (fun k hk => by omega) (fun k j hk z => z) (by omega)).trans a1
  · exact cache_keep a2.2.1 (o.1 _ (by omega)) (o.1 _ (by omega)) (fun z _ => o.1 _ (by omega))
  · rw [o.1 43 (by omega)]; exact a5
theorem ok_price {v : LV} {μ : GM} (h : InvV v μ) (z : Int) : PrOK (f_X11_price z) (f_X12_price z) μ := by
  have hv := h.1.2.2.1
  have hx := h.1.2.2.2
  have hN := h.2.2.2.2.2.2.1.2.1
  have l0 := hv.1
  by_cases q : 0 ≤ z ∧ z < v.2 0
  · obtain ⟨lim, hl⟩ : ∃ lim, lim = μ.1 48 := ⟨_, rfl⟩
    obtain ⟨sg, hs⟩ : ∃ sg, sg = μ.1 43 := ⟨_, rfl⟩
    obtain ⟨N, eN⟩ : ∃ N, N = μ.2 42 2 := ⟨_, rfl⟩
    rw [← eN] at hN
    obtain ⟨lim2, hl2⟩ : ∃ lim2 : Int → Int, lim2 = fun i => if i = z then -10000009 else lim i := ⟨_, rfl⟩
    obtain ⟨B1, hB1⟩ : ∃ B, B = (bpl v lim sg N (5 ^ nn v 4)).1 := ⟨_, rfl⟩
    obtain ⟨B2, hB2⟩ : ∃ B, B = (bpl v lim2 sg N (5 ^ nn v 4)).1 := ⟨_, rfl⟩
    have hc0 : ClC v N sg lim μ := by rw [eN, hs, hl]; exact h.clc
    have C : Rt (f_X11_price z μ) (fun r s => r = (if lim z = -10000009 then 0 else if B1 = -10000009 then -10000009 else w32 (B2 - B1)) ∧ ScOK v μ s) := by
      unfold f_X11_price
      refine Rt_bde (hasCell_y (lcN0 h.1.1) q) (Rt_neg (by decide) (Rt_ck (by omega) (Rt_lt ?_)))
      rw [← hl]
      refine Rt_if (fun c => Rt_some ⟨by rw [if_pos c], ScOK.refl h⟩) (fun c => Rt_bd (cbest hv hx hN hc0) (fun r s ⟨sc, er, _⟩ => ?_))
      rw [← hB1] at er
      rw [er]
      refine Rt_if (fun c2 => Rt_some ⟨by rw [if_neg c, if_pos c2], sc⟩) (fun c2 => Rt_ck (by omega) (Rt_lm ?_))
      have cs := hc0.sc sc
      have e48 : s.1 48 = lim := cs.2.2.2.2.2
      have cs2 : ClC v N sg lim2 (gA s 48 z (-10000009)) := cs.l48 (by rw [hl2]; exact upd_fun e48)
      refine Rt_bd (cbest hv hx hN cs2) (fun r2 s2 ⟨sc2, er2, _⟩ => Rt_ck (by omega) (Rt_lm (Rt_some ⟨?_, ?_⟩)))
      · rw [er2, ← hB2, if_neg c, if_neg c2]
      · refine sc.trans ⟨⟨fun k hk => ?_, fun k j hk => ?_⟩, ?_, sc2.2.2.1, sc2.2.2.2⟩
        · by_cases q8 : k = 48
          · subst q8
            funext i
            rw [gA_at, sc2.1.1 48 hk, gA_at, e48]
            by_cases qi : i = z
            · rw [if_pos qi, qi]
            · rw [if_neg qi, if_neg qi]
          · rw [gA_nk _ _ _ q8, sc2.1.1 k hk, gA_nk _ _ _ q8]
        · exact sc2.1.2 k j hk
        · exact cache_keep sc2.2.1 (gA_nk _ _ _ (by omega)) (gA_nk _ _ _ (by omega)) (fun z _ => gA_nk _ _ _ (by omega))
    unfold PrOK
    refine C.mono (fun r s ⟨er, sc⟩ => ?_)
    obtain ⟨i1, sc0⟩ := inv_thr (h.sc sc)
    obtain ⟨t1, t2, t3⟩ := thr_f sc
    rw [← eN] at t1
    rw [← hs] at t2
    rw [← hl] at t3
    have hp := i1.2.2.2.2.2.2.1
    have e92 : (gF s 53 0 0).1 92 = lim := by rw [← i1.2.2.2.2.2.2.2.1]; exact t3
    have e88 : (gF s 53 0 0).1 88 = sg := by rw [← hp.2.2.1]; exact t2
    have e44 : (gF s 53 0 0).2 53 44 = N := by rw [← hp.1]; exact t1
    unfold f_X12_price
    refine Rt_lm (Rt_bde (noCell_y (lmN0 i1.1.2.1) (lim0 hv) q) (Rt_pos rfl (Rt_ck (by omega) ?_)))
    rw [e92]
    refine Rt_if (fun c => Rt_some ⟨by rw [er, if_pos c], v, i1⟩) (fun c => Rt_bd (mb_inv i1 t1 t2 t3) (fun _ s2 ⟨o2, e50, _⟩ => ?_))
    rw [← hB1] at e50
    rw [e50]
    have i2 := i1.sc ((ScOK.refl i1).m o2)
    refine Rt_if (fun c2 => Rt_some ⟨by rw [er, if_neg c, if_pos c2], v, i2⟩) (fun c2 => Rt_lt (Rt_ck (by omega) (Rt_lt (Rt_ck (by omega) (Rt_lm ?_)))))
    have f92 : s2.1 92 = lim := (o2.1 92 (by unfold PM; omega)).trans e92
    have o3 : ofr (fun k => k = 92) nF s2 (gA s2 92 z (-10000009)) := ofr.rfl.a rfl
    refine Rt_bd (mbest (N := N) (sg := sg) (lim := lim2) hv hx hN ((mV_keep o3 (fun k _ _ => by omega) (fun _ _ _ z => z) (by omega) (by omega)).trans i2.1.2.1) ?_ ?_ (by rw [hl2]; exact upd_fun f92) (fun i hi => ?_)) (fun _ s4 ⟨o4, e450, _⟩ => Rt_ck (by omega) (Rt_lm (Rt_some ⟨?_, v, ?_⟩)))
    · rw [o3.2 53 44 (fun z => z), o2.2 53 44 (by unfold FM; omega)]; exact e44
    · rw [o3.1 88 (by omega), o2.1 88 (by unfold PM; omega)]; exact e88
    · rw [← e88, ← hp.2.2.1]; exact hp.2.2.2 i (by rw [t1]; exact hi)
    · rw [gA_2, e450, ← hB2, er, if_neg c, if_neg c2]
    · refine i2.sc ((ScOK.refl i2).m ⟨fun k hk => ?_, fun k j hk => ?_⟩)
      · by_cases q8 : k = 92
        · subst q8
          funext i
          rw [gA_at, o4.1 92 hk, gA_at, f92]
          by_cases qi : i = z
          · rw [if_pos qi, qi]
          · rw [if_neg qi, if_neg qi]
        · rw [gA_nk _ _ _ q8, o4.1 k hk, gA_nk _ _ _ q8]
      · exact o4.2 k j hk
  · obtain ⟨i1, sc0⟩ := inv_thr h
    unfold PrOK f_X11_price
    refine Rt_bde (hasCell_n (lcN0 h.1.1) q) (Rt_pos rfl (Rt_some ?_))
    unfold f_X12_price
    exact Rt_lm (Rt_bde (noCell_n (lmN0 i1.1.2.1) (lim0 hv) q) (Rt_neg (by decide) (ref_m h)))
