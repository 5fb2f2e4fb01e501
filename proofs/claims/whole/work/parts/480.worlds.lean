/-! worlds: one link's ease another one -/
noncomputable def thP (u : LV) : Int := Classical.epsilon (fun p => okp u p ∧ isR u p)
theorem thP_ok {u : LV} (h : hasR u) : okp u (thP u) ∧ isR u (thP u) := Classical.epsilon_spec h.2
theorem thP_eq {u : LV} (hu : wfL u) {p : Int} (hp : okp u p) (hr : isR u p) : p = thP u := by
  have e : okp u (thP u) ∧ isR u (thP u) := Classical.epsilon_spec (p := fun p => okp u p ∧ isR u p) ⟨p, hp, hr⟩
  exact isR_uniq hu hp e.1 hr e.2
def wld (v : LV) (μ : GM) (w : Nat) : LV := setA v 5 (μ.1 32 w) (μ.1 33 w)
noncomputable def wM (u : LV) (c : Nat) : Int := mil (upv u (thP u) c) (detv u (thP u))
theorem wld_wf {v : LV} {μ : GM} (h : InvV v μ) {w : Nat} (hw : (w : Int) < μ.2 31 2) : wfL (wld v μ w) ∧ wfX (wld v μ w) := wf_ease h.1.2.2.1 h.1.2.2.2 (h.2.2.2.2.1.2.2.2.2 w hw).2
theorem settleIn_spec {v : LV} {μ : GM} (h : InvV v μ) {w : Nat} (hw : (w : Int) < μ.2 31 2) : Rt (f_X10_settleIn (w : Int) μ) (fun r μ' => ScOK v μ μ' ∧ (∀ k, 37 ≤ k → k ≤ 41 → μ'.1 k = μ.1 k) ∧ ((r = 1 ∧ ∃ p, restAt (wld v μ w) 132 μ' p) ∨ (r = 0 ∧ ¬ hasR (wld v μ w)))) := by
  have hv := h.1.2.2.1
  have l1 := hv.2.1
  have wi := h.2.2.2.2.1
  have w5 := wi.2.1
  have hw2 := wi.2.2.2.2 w hw
  have hu := wld_wf h hw
  obtain ⟨l, hl⟩ : ∃ l, l = μ.1 32 (w : Int) := ⟨_, rfl⟩
  obtain ⟨e, he⟩ : ∃ e, e = μ.1 33 (w : Int) := ⟨_, rfl⟩
  have eu : wld v μ w = setA v 5 l e := by unfold wld; rw [← hl, ← he]
  rw [← hl, ← he] at hw2
  rw [eu] at hu ⊢
  unfold f_X10_settleIn
  rw [← hl, ← he]
  refine Rt_ck (by omega) (Rt_ck (by omega) (Rt_bde (exch_eq (N := 12) (by decide +kernel) (by omega)) ?_))
  have hfg : Rt (f_X6_forget 132 (gA μ 8 l e)) (fun _ μ1 => ofr (fun k => k = 133) nF (gA μ 8 l e) μ1 ∧ ∀ z : Nat, z < 1 → μ1.1 133 z = -10000009) := by
    unfold f_X6_forget
    exact Rt_bd (fillI_spec (a := 132 + 1) (N := 1) (by decide +kernel) (by omega) (-10000009) _) (fun _ μ1 ⟨k1, k2, _⟩ => Rt_some ⟨k1, k2⟩)
  refine Rt_bd hfg (fun _ μ4 ⟨k1, k2⟩ => ?_)
  have c4 : cV 22 μ4 = setA v 5 l e := (cV_keep k1 (fun k hk => by omega) (fun _ _ _ z => z) (by omega)).trans (by rw [cVs5, h.1.1])
  have g1 : μ4.2 132 1 = (gSl 132 : Int) := by rw [k1.2 132 1 (fun z => z), gA_2]; exact h.2.2.1.1
  have g8 : okp (setA v 5 l e) (μ4.2 132 8) := by rw [k1.2 132 8 (fun z => z), gA_2]; exact h.2.2.1.2
  refine Rt_bd (settle_v (t := 132) (b := 22) gRt_B hu.1 (by omega) (by rw [c4]; exact veq_refl _) g1 (cache_none (fun z hz => k2 z hz)) g8) (fun r μ6 ⟨m1, m2, m3, m4⟩ => Rt_ck (by omega) ?_)
  have e32 : μ6.1 32 (w : Int) = l := by rw [m1.1 32 (fun z => by unfold PR at z; omega), k1.1 32 (by omega), gA_nk _ _ _ (by decide), hl]
  rw [e32]
  refine Rt_ck (by omega) (Rt_lm (Rt_some ⟨⟨?_, ?_, ?_, ?_⟩, ?_, ?_⟩))
  · refine ⟨fun k hk => ?_, fun k j hk => ?_⟩
    · by_cases q8 : k = 8
      · subst q8
        funext i
        rw [gA_at, m1.1 8 (fun z => by unfold PR at z; omega), k1.1 8 (by omega), gA_at]
        by_cases qi : i = l
        · rw [if_pos qi, qi]
        · rw [if_neg qi, if_neg qi]
      · rw [gA_nk _ _ _ q8, m1.1 k (fun z => by unfold PR at z; unfold PSc at hk; omega), k1.1 k (fun z => by unfold PSc at hk; omega), gA_nk _ _ _ q8]
    · rw [gA_2, m1.2 k j (fun z => by unfold FR at z; unfold FSc at hk; omega), k1.2 k j (fun z => z), gA_2]
  · refine cache_keep h.2.1.2.1 ?_ ?_ (fun z hz => ?_)
    · rw [gA_nk _ _ _ (by omega), m1.1 _ (fun z => by unfold PR at z; omega), k1.1 _ (by omega), gA_nk _ _ _ (by omega)]
    · rw [gA_nk _ _ _ (by omega), m1.1 _ (fun z => by unfold PR at z; omega), k1.1 _ (by omega), gA_nk _ _ _ (by omega)]
    · have hz2 : z < 32 := hz
      rw [gA_nk _ _ _ (by omega), m1.1 _ (fun z => by unfold PR at z; omega), k1.1 _ (by omega), gA_nk _ _ _ (by omega)]
  · rw [gA_2, m1.2 94 8 (fun z => by unfold FR at z; omega), k1.2 94 8 (fun z => z), gA_2]; exact h.2.1.2.2
  · rw [gA_2]; exact m3
  · intro k ka kb
    rw [gA_nk _ _ _ (by omega), m1.1 k (fun z => by unfold PR at z; omega), k1.1 k (by omega), gA_nk _ _ _ (by omega)]
  · rcases m4 with ⟨r1, p, hp⟩ | ⟨r0, hn⟩
    · subst r1
      refine Or.inl ⟨rfl, p, hp.1, hp.2.1, hp.2.2.1, hp.2.2.2.1, hp.2.2.2.2.1, fun c hc => ?_⟩
      rw [gA_nk _ _ _ (by decide)]; exact hp.2.2.2.2.2 c hc
    · subst r0; exact Or.inr ⟨rfl, hn⟩
theorem restsIn_spec {v : LV} {μ : GM} (h : InvV v μ) {w : Nat} (hw : (w : Int) < μ.2 31 2) : Rt (f_X12_restsIn (w : Int) μ) (fun r μ' => ofr PM FM μ μ' ∧ μ'.1 87 = μ.1 87 ∧ ((r = 1 ∧ ∃ p, restM (wld v μ w) μ' p) ∨ (r = 0 ∧ ¬ hasR (wld v μ w)))) := by
  have hv := h.1.2.2.1
  have l1 := hv.2.1
  have n1 := nn_c hv 1 (by omega)
  have n4 := nn_c hv 4 (by omega)
  have l4 := hv.2.2.2.2.1
  have wi := h.2.2.2.2.1
  have w5 := wi.2.1
  have hw2 := wi.2.2.2.2 w hw
  have hu := wld_wf h hw
  obtain ⟨l, hl⟩ : ∃ l, l = μ.1 32 (w : Int) := ⟨_, rfl⟩
  obtain ⟨e, he⟩ : ∃ e, e = μ.1 33 (w : Int) := ⟨_, rfl⟩
  have eu : wld v μ w = setA v 5 l e := by unfold wld; rw [← hl, ← he]
  rw [← hl, ← he] at hw2
  rw [eu] at hu ⊢
  unfold f_X12_restsIn
  refine Rt_bd (asIs_spec μ) (fun _ μ2 ⟨k1, k2, k3⟩ => Rt_ck (by omega) (Rt_ck (by omega) ?_))
  have e82 : μ2.1 82 (w : Int) = l := by rw [k1.1 82 (by omega), ← wi.2.2.1, hl]
  have e83 : μ2.1 83 (w : Int) = e := by rw [k1.1 83 (by omega), ← wi.2.2.2.1, he]
  rw [e82, e83]
  refine Rt_ck (by omega) (Rt_lm ?_)
  have v2 := mV_now h.1.2.1 hv k1 k2 k3
  have v3 : veq (setA v 5 l e) (mV 72 73 (gA μ2 72 l e)) := by
    refine ⟨fun j hj h5 => ?_, ?_, fun k hk => ?_, fun k hk => ?_⟩
    · rw [setA_ne (by unfold cap16; rw [if_pos hj]; exact h5)]
      refine (v2.1 j hj h5).trans ?_
      unfold mV
      match j, hj, h5 with
      | 0, _, _ => exact (gA_nk (k' := 54) (k := 72) μ2 l e (by decide)).symm
      | 1, _, _ => exact (gA_nk (k' := 55) (k := 72) μ2 l e (by decide)).symm
      | 2, _, _ => exact (gA_nk (k' := 56) (k := 72) μ2 l e (by decide)).symm
      | 3, _, _ => exact (gA_nk (k' := 57) (k := 72) μ2 l e (by decide)).symm
      | 4, _, _ => exact (gA_nk (k' := 58) (k := 72) μ2 l e (by decide)).symm
      | 6, _, _ => exact (gA_nk (k' := 60) (k := 72) μ2 l e (by decide)).symm
      | 7, _, _ => exact (gA_nk (k' := 61) (k := 72) μ2 l e (by decide)).symm
      | 8, _, _ => exact (gA_nk (k' := 62) (k := 72) μ2 l e (by decide)).symm
      | 9, _, _ => exact (gA_nk (k' := 63) (k := 72) μ2 l e (by decide)).symm
      | 10, _, _ => exact (gA_nk (k' := 64) (k := 72) μ2 l e (by decide)).symm
      | 11, _, _ => exact (gA_nk (k' := 65) (k := 72) μ2 l e (by decide)).symm
      | 12, _, _ => exact (gA_nk (k' := 66) (k := 72) μ2 l e (by decide)).symm
      | 13, _, _ => exact (gA_nk (k' := 67) (k := 72) μ2 l e (by decide)).symm
      | 14, _, _ => exact (gA_nk (k' := 68) (k := 72) μ2 l e (by decide)).symm
      | 15, _, _ => exact (gA_nk (k' := 69) (k := 72) μ2 l e (by decide)).symm
      | j + 16, h, _ => omega
    · exact v2.2.1
    · show _ = (gA μ2 72 l e).1 72 (k : Int)
      rw [setA_at rfl, gA_at]
      have : v.1 5 k = μ2.1 72 (k : Int) := v2.2.2.1 k hk
      rw [this]
    · show v.1 16 k = (gA μ2 72 l e).1 73 (k : Int)
      rw [gA_nk _ _ _ (by decide)]; exact v2.2.2.2 k hk
  refine Rt_bd (solves_v hu.1 v3) (fun r μ5 ⟨j1, j2⟩ => ?_)
  have o : ofr PM FM μ μ5 := ((k1.mono (fun k hk => by unfold PM; omega) (fun _ _ z => z.elim)).a (show PM 72 by unfold PM; omega)).trans (j1.mono (fun k hk => by unfold PS at hk; unfold PM; omega) (fun k j hk => by unfold FS at hk; unfold FM; omega))
  have e87 : μ5.1 87 = μ.1 87 := by rw [j1.1 87 (by unfold PS; omega), gA_nk _ _ _ (by decide), k1.1 87 (by omega)]
  rcases j2 with ⟨r1, hp⟩ | ⟨r0, hn⟩
  · subst r1; exact Rt_some ⟨o, e87, Or.inl ⟨rfl, hp⟩⟩
  · subst r0; exact Rt_some ⟨o, e87, Or.inr ⟨rfl, hn⟩⟩
theorem hasWorld_y {z n : Int} {μ : GM} (hn : μ.2 31 2 = n) (h : 0 ≤ z ∧ z < n) : f_X10_has z μ = some (1, μ) := by
  unfold f_X10_has; rw [if_neg (by omega), if_pos (by omega)]; rfl
theorem hasWorld_n {z n : Int} {μ : GM} (hn : μ.2 31 2 = n) (h : ¬ (0 ≤ z ∧ z < n)) : f_X10_has z μ = some (0, μ) := by
  unfold f_X10_has
  by_cases q : z < 0
  · rw [if_pos q]; rfl
  · rw [if_neg q, if_neg (by omega)]; rfl
theorem wM_of {u : LV} (hu : wfL u) {t : Nat} {μ : GM} {p : Int} (hp : restAt u t μ p) {c : Nat} (hc : c < nn u 0) : f_X6_headMilli t (c : Int) μ = some (wM u c, μ) := by
  have e := thP_eq hu hp.2.1 hp.2.2.1
  rw [chm_eq hu hp hc]
  unfold wM
  rw [← e]
theorem wM_m {u : LV} (hu : wfL u) {μ : GM} {p : Int} (hp : restM u μ p) {c : Nat} (hc : c < nn u 0) : f_X12_milliOf (μ.1 71 (c : Int)) μ = some (wM u c, μ) := by
  have e := thP_eq hu hp.2.1 hp.2.2.1
  have a := up_range hu hp.2.2.1.1 hc
  have d := det_pos hu hp.2.2.1
  rw [hp.2.2.2.2.2 c hc, mmil_eq (by omega) (by omega) d.1 (by omega) hp.2.2.2.1]
  unfold wM
  rw [← e]
theorem ok_inWorld {v : LV} {μ : GM} (h : InvV v μ) (z x : Int) : PrOK (f_X11_inWorld z x) (f_X12_inWorld z x) μ := by
  obtain ⟨h1, s1⟩ := inv_thr h
  have hv := h.1.2.2.1
  have n0 := nn_c hv 0 (by omega)
  have l0 := hv.1
  have wi := h.2.2.2.2.1
  have wi2 := wi.2.1
  unfold PrOK f_X11_inWorld
  by_cases q : 0 ≤ z ∧ z < μ.2 31 2
  · refine Rt_bde (hasWorld_y rfl q) (Rt_neg (by decide) ?_)
    by_cases qx : 0 ≤ x ∧ x < v.2 0
    · refine Rt_bde (hasCell_y (lcN0 h.1.1) qx) (Rt_neg (by decide) ?_)
      obtain ⟨w, hw⟩ : ∃ w : Nat, z = w := ⟨z.toNat, by omega⟩
      subst hw
      obtain ⟨c, hc⟩ : ∃ c : Nat, x = c := ⟨x.toNat, by omega⟩
      subst hc
      have hu := wld_wf h q.2
      refine Rt_bd (settleIn_spec h q.2) (fun r μ2 ⟨s2, _, ho⟩ => ?_)
      have i2 := h.sc s2
      obtain ⟨j2, t2⟩ := inv_thr i2
      have ew : (gF μ2 53 0 0).2 31 2 = μ.2 31 2 := by rw [gF_ne _ _ (by omega), s2.1.2 31 2 (by unfold FSc; omega)]
      have e37 : (gF μ2 53 0 0).2 53 37 = μ.2 31 2 := by rw [← j2.2.2.2.2.1.1]; exact ew
      have ewl : wld v (gF μ2 53 0 0) w = wld v μ w := by unfold wld; rw [gF_1, s2.1.1 32 (by unfold PSc; omega), s2.1.1 33 (by unfold PSc; omega)]
      have msd : ∀ val, ((∃ p, okp (wld v μ w) p ∧ isR (wld v μ w) p ∧ nn (wld v μ w) 0 ≠ 0) → val = wM (wld v μ w) c) → (¬ hasR (wld v μ w) → val = -10000003) → Rt (f_X12_inWorld (w : Int) (c : Int) μ2) (fun r' μ3 => r' = val ∧ ∃ v, InvV v μ3) := by
        intro val hy hn
        unfold f_X12_inWorld
        refine Rt_lm ?_
        rw [e37, w32i (by omega) (by omega)]
        refine Rt_bde (in_y (by omega)) (Rt_neg (by decide) (Rt_bde (noCell_y (lmN0 j2.1.2.1) (lim0 hv) qx) (Rt_pos rfl (Rt_bd (restsIn_spec j2 (by rw [ew]; exact q.2)) (fun r3 μ3 ⟨o3, _, ho3⟩ => ?_)))))
        rw [ewl] at ho3
        have i3 := j2.sc ((ScOK.refl j2).m o3)
        rcases ho3 with ⟨r31, p, hp⟩ | ⟨r30, hn3⟩
        · refine Rt_neg (by omega) (Rt_ck (by omega) (Rt_bde (wM_m hu.1 hp (show c < nn (wld v μ w) 0 by show c < nn v 0; omega)) (Rt_some ⟨?_, v, i3⟩)))
          exact (hy ⟨p, hp.2.1, hp.2.2.1, hp.1⟩).symm
        · exact Rt_pos r30 (Rt_some ⟨(hn hn3).symm, v, i3⟩)
      rcases ho with ⟨r1, p, hp⟩ | ⟨r0, hn⟩
      · refine Rt_neg (by omega) (Rt_bde (wM_of hu.1 hp (show c < nn (wld v μ w) 0 by show c < nn v 0; omega)) (Rt_some ?_))
        exact msd _ (fun _ => rfl) (fun hn => absurd ⟨hp.1, p, hp.2.1, hp.2.2.1⟩ hn)
      · refine Rt_pos r0 (Rt_some ?_)
        exact msd _ (fun ⟨p, a, b, d⟩ => absurd ⟨d, p, a, b⟩ hn) (fun _ => rfl)
    · refine Rt_bde (hasCell_n (lcN0 h.1.1) qx) (Rt_pos rfl (Rt_some ?_))
      unfold f_X12_inWorld
      refine Rt_lm ?_
      rw [show (gF μ 53 0 0).2 53 37 = μ.2 31 2 by rw [gF_ne _ _ (by omega)]; exact wi.1.symm, w32i (by omega) (by omega)]
      exact Rt_bde (in_y (by omega)) (Rt_neg (by decide) (Rt_bde (noCell_n (lmN0 h1.1.2.1) (lim0 hv) qx) (Rt_neg (by decide) (ref_m h))))
  · refine Rt_bde (hasWorld_n rfl q) (Rt_pos rfl (Rt_some ?_))
    unfold f_X12_inWorld
    refine Rt_lm ?_
    rw [show (gF μ 53 0 0).2 53 37 = μ.2 31 2 by rw [gF_ne _ _ (by omega)]; exact wi.1.symm, w32i (by omega) (by omega)]
    exact Rt_bde (in_n (by omega)) (Rt_pos rfl (ref_m h))
