/-! sources, heads, fits: as the one side does them -/
theorem srcr_b {v : LV} (hv : wfL v) (p : Int) (i : Nat) : ∀ z, z ≤ nn v 2 → 0 ≤ srcr v p z i ∧ srcr v p z i ≤ 9000 * (z : Int)
  | 0, _ => ⟨by show (0 : Int) ≤ 0; omega, by show (0 : Int) ≤ _; omega⟩
  | z + 1, hz => by
    have ih := srcr_b hv p i z (by omega)
    have h := hv.2.2.2.2.2.2.2.1 z (by omega)
    have e : srcr v p (z + 1) i = srcr v p z i + nb (v.1 6 z) i * (v.1 9 z * (if bt p z then v.1 7 z else v.1 7 z - v.1 8 z)) := rfl
    have a : 0 ≤ (if bt p z then v.1 7 z else v.1 7 z - v.1 8 z) ∧ (if bt p z then v.1 7 z else v.1 7 z - v.1 8 z) ≤ 1000 := by split <;> omega
    have m := mul_mono (a := v.1 9 z) (b := 9) (by omega) a.2 a.1 (by omega)
    have m0 := Int.mul_nonneg (show 0 ≤ v.1 9 z by omega) a.1
    rw [e]
    unfold nb
    split <;> constructor <;> omega
theorem srcd_b {v : LV} (hv : wfL v) (p : Int) (i : Nat) : ∀ z, z ≤ nn v 3 → 0 ≤ srcd v p z i ∧ srcd v p z i ≤ 9000 * (z : Int)
  | 0, _ => ⟨by show (0 : Int) ≤ 0; omega, by show (0 : Int) ≤ _; omega⟩
  | z + 1, hz => by
    have ih := srcd_b hv p i z (by omega)
    have h := hv.2.2.2.2.2.2.2.2.1 z (by omega)
    have e : srcd v p (z + 1) i = srcd v p z i + (if bt p (z + 3) then nb (v.1 10 z) i * (v.1 12 z * v.1 11 z) else 0) := rfl
    have m := mul_mono (a := v.1 12 z) (b := 9) (c := v.1 11 z) (d := 1000) (by omega) (by omega) (by omega) (by omega)
    have m0 := Int.mul_nonneg (show 0 ≤ v.1 12 z by omega) (show 0 ≤ v.1 11 z by omega)
    rw [e]
    split
    · unfold nb
      split <;> constructor <;> omega
    · constructor <;> omega
theorem srcw_b {v : LV} (hv : wfL v) (i : Nat) : ∀ z, z ≤ nn v 4 → 0 ≤ srcw v z i ∧ srcw v z i ≤ 99 * (z : Int)
  | 0, _ => ⟨by show (0 : Int) ≤ 0; omega, by show (0 : Int) ≤ _; omega⟩
  | z + 1, hz => by
    have ih := srcw_b hv i z (by omega)
    have h := hv.2.2.2.2.2.2.2.2.2 z (by omega)
    have e : srcw v (z + 1) i = srcw v z i + nb (v.1 13 z) i * v.1 16 z := rfl
    rw [e]
    unfold nb
    split <;> constructor <;> omega
/-- a number added at one place of a row -/
theorem vec1 {s : GM} {a x : Nat} {w e : Int} (hw : w = s.1 a (x : Int) + e) (i : Nat) : (gA s a (x : Int) w).1 a (i : Int) = s.1 a (i : Int) + nb (x : Int) i * e := by
  rw [gA_at]
  by_cases q : (i : Int) = (x : Int)
  · have q2 : i = x := by omega
    subst q2
    rw [if_pos rfl, nb_self, hw]; omega
  · rw [if_neg q, nb_ne (by omega)]; omega
theorem gsrc_spec {t b : Nat} (ht : gRt t) {p : Int} {v : LV} (hv : wfL v) (hb : b < 53) {μ0 : GM} (hc : cV b μ0 = v) :
    Rt (f_X6_gatherSources t b p μ0) (fun _ μ => ofr (fun k => k = t + 4) nF μ0 μ ∧ ∀ i : Nat, i < nn v 0 → μ.1 (t + 4) i = src v p i) := by
  have ht94 : 94 ≤ t := by rcases ht with h | h <;> omega
  have kp : ∀ s, ofr (fun k => k = t + 4) nF μ0 s → cV b s = v := fun s h => (cV_keep h (fun k hk => by omega) (fun _ _ _ z => z) (by omega)).trans hc
  have n0 := nn_c hv 0 (by omega)
  have n2 := nn_c hv 2 (by omega)
  have n3 := nn_c hv 3 (by omega)
  have n4 := nn_c hv 4 (by omega)
  have l0 := hv.1
  have l2 := hv.2.2.1
  have l3 := hv.2.2.2.1
  have l4 := hv.2.2.2.2.1
  unfold f_X6_gatherSources
  refine Rt_loop (fun f z s => k_X6_gatherSources_2 t b f p z s) _ (nn v 0) (fun z s => ofr (fun k => k = t + 4) nF μ0 s ∧ ∀ i : Nat, i < z → s.1 (t + 4) i = v.1 1 i) ?_ ?_ FU 0 μ0 (by omega) (FU_gt (by omega)) ⟨ofr.rfl, fun i h => by omega⟩
  · intro f z s hz ⟨hs, hm⟩ hnext
    have hcs := kp s hs
    show Rt (k_X6_gatherSources_2 t b (f + 1) p (z : Int) s) _
    rw [k_X6_gatherSources_2, lcN0 hcs, lcA1 hcs]
    refine Rt_pos (by omega) (Rt_ck (by omega) (Rt_ck (by omega) (Rt_lm (Rt_lt ?_))))
    rw [w32s (by omega)]
    refine hnext _ ⟨hs.a (Eq.refl _), fun i hi => ?_⟩
    rw [gA_at]
    by_cases q : (i : Int) = (z : Int)
    · rw [if_pos q, q]
    · rw [if_neg q]; exact hm i (by omega)
  intro f s ⟨hs, hm⟩
  have hcs := kp s hs
  show Rt (k_X6_gatherSources_2 t b (f + 1) p (nn v 0 : Int) s) _
  rw [k_X6_gatherSources_2, lcN0 hcs]
  refine Rt_neg (by omega) ?_
  refine Rt_loop (fun f z s => k_X6_gatherSources_46 t b f p z s) _ (nn v 2) (fun z s => ofr (fun k => k = t + 4) nF μ0 s ∧ ∀ i : Nat, i < nn v 0 → s.1 (t + 4) i = v.1 1 i + srcr v p z i) ?_ ?_ FU 0 s (by omega) (FU_gt (by omega)) ⟨hs, fun i h => by rw [hm i h]; exact (Int.add_zero _).symm⟩
  · intro f z s hz ⟨hs, hm⟩ hnext
    have hcs := kp s hs
    have h := hv.2.2.2.2.2.2.2.1 z hz
    obtain ⟨x, hx⟩ : ∃ x : Nat, v.1 6 z = x := ⟨(v.1 6 z).toNat, by omega⟩
    have rb := hv.2.2.2.2.2.1 x (by omega)
    have sb := srcr_b hv p x z (by omega)
    have go : ∀ w : Int, w = (if bt p z then v.1 7 z else v.1 7 z - v.1 8 z) → 0 ≤ w → w ≤ 1000 → Rt (k_X6_gatherSources_102 (k_X6_gatherSources_46 t b f) t b p (z : Int) w s) (fun _ μ => ofr (fun k => k = t + 4) nF μ0 μ ∧ ∀ i : Nat, i < nn v 0 → μ.1 (t + 4) i = src v p i) := by
      intro w hw w0 w1
      unfold k_X6_gatherSources_102
      rw [lcA6 hcs, lcA9 hcs, hx]
      have m := mul_mono (a := v.1 9 z) (b := 9) (c := w) (d := 1000) (by omega) w1 w0 (by omega)
      have m0 := Int.mul_nonneg (show 0 ≤ v.1 9 z by omega) w0
      refine Rt_ck (by omega) (Rt_ck (by omega) (Rt_ck (by omega) (Rt_ck (by omega) (Rt_lm (Rt_lt ?_)))))
      rw [w32s (by omega), w32i (x := v.1 9 z * w) (by omega) (by omega)]
      refine hnext _ ⟨hs.a (Eq.refl _), fun i hi => ?_⟩
      rw [vec1 (e := v.1 9 z * w) (w64i (by rw [hm x (by omega)]; omega) (by rw [hm x (by omega)]; omega)) i, hm i hi]
      show _ = _ + (srcr v p z i + nb (v.1 6 z) i * (v.1 9 z * (if bt p z then v.1 7 z else v.1 7 z - v.1 8 z)))
      rw [← hw, hx]; omega
    show Rt (k_X6_gatherSources_46 t b (f + 1) p (z : Int) s) _
    rw [k_X6_gatherSources_46, lcN2 hcs]
    refine Rt_pos (by omega) (Rt_if (fun hq => ?_) (fun hq => ?_))
    · unfold k_X6_gatherSources_70
      refine Rt_neg (by decide) (Rt_ck (by omega) ?_)
      rw [lcA7 hcs]
      exact go _ (by rw [if_pos hq]) (by omega) (by omega)
    · unfold k_X6_gatherSources_70
      refine Rt_pos rfl (Rt_ck (by omega) (Rt_ck (by omega) ?_))
      rw [lcA7 hcs, lcA8 hcs, w32i (by omega) (by omega)]
      exact go _ (by rw [if_neg hq]) (by omega) (by omega)
  intro f s ⟨hs, hm⟩
  have hcs := kp s hs
  show Rt (k_X6_gatherSources_46 t b (f + 1) p (nn v 2 : Int) s) _
  rw [k_X6_gatherSources_46, lcN2 hcs]
  refine Rt_neg (by omega) ?_
  refine Rt_loop (fun f z s => k_X6_gatherSources_148 t b f p z s) _ (nn v 3) (fun z s => ofr (fun k => k = t + 4) nF μ0 s ∧ ∀ i : Nat, i < nn v 0 → s.1 (t + 4) i = v.1 1 i + srcr v p (nn v 2) i + srcd v p z i) ?_ ?_ FU 0 s (by omega) (FU_gt (by omega)) ⟨hs, fun i h => by rw [hm i h]; exact (Int.add_zero _).symm⟩
  · intro f z s hz ⟨hs, hm⟩ hnext
    have hcs := kp s hs
    have h := hv.2.2.2.2.2.2.2.2.1 z hz
    obtain ⟨x, hx⟩ : ∃ x : Nat, v.1 10 z = x := ⟨(v.1 10 z).toNat, by omega⟩
    have rb := hv.2.2.2.2.2.1 x (by omega)
    have sb := srcr_b hv p x (nn v 2) (Nat.le_refl _)
    have db := srcd_b hv p x z (by omega)
    have m := mul_mono (a := v.1 12 z) (b := 9) (c := v.1 11 z) (d := 1000) (by omega) (by omega) (by omega) (by omega)
    have m0 := Int.mul_nonneg (show 0 ≤ v.1 12 z by omega) (show 0 ≤ v.1 11 z by omega)
    show Rt (k_X6_gatherSources_148 t b (f + 1) p (z : Int) s) _
    rw [k_X6_gatherSources_148, lcN3 hcs, show w32 (3 + (z : Int)) = ((z + 3 : Nat) : Int) by rw [w32i (by omega) (by omega)]; omega]
    refine Rt_pos (by omega) (Rt_if (fun hq => ?_) (fun hq => ?_))
    · unfold k_X6_gatherSources_175
      refine Rt_neg (by decide) ?_
      rw [lcA10 hcs, lcA12 hcs, lcA11 hcs, hx]
      refine Rt_ck (by omega) (Rt_ck (by omega) (Rt_ck (by omega) (Rt_ck (by omega) (Rt_ck (by omega) (Rt_lm (Rt_lt ?_))))))
      rw [w32s (by omega), w32i (x := v.1 12 z * v.1 11 z) (by omega) (by omega)]
      refine hnext _ ⟨hs.a (Eq.refl _), fun i hi => ?_⟩
      rw [vec1 (e := v.1 12 z * v.1 11 z) (w64i (by rw [hm x (by omega)]; omega) (by rw [hm x (by omega)]; omega)) i, hm i hi]
      show _ = _ + (srcd v p z i + (if bt p (z + 3) then nb (v.1 10 z) i * (v.1 12 z * v.1 11 z) else 0))
      rw [if_pos hq, hx]; omega
    · unfold k_X6_gatherSources_175
      refine Rt_pos rfl (Rt_lt ?_)
      rw [w32s (by omega)]
      refine hnext _ ⟨hs, fun i hi => ?_⟩
      rw [hm i hi]
      show _ = _ + (srcd v p z i + (if bt p (z + 3) then nb (v.1 10 z) i * (v.1 12 z * v.1 11 z) else 0))
      rw [if_neg hq]; omega
  intro f s ⟨hs, hm⟩
  have hcs := kp s hs
  show Rt (k_X6_gatherSources_148 t b (f + 1) p (nn v 3 : Int) s) _
  rw [k_X6_gatherSources_148, lcN3 hcs]
  refine Rt_neg (by omega) ?_
  refine Rt_loop (fun f z s => k_X6_gatherSources_225 t b f z s) _ (nn v 4) (fun z s => ofr (fun k => k = t + 4) nF μ0 s ∧ ∀ i : Nat, i < nn v 0 → s.1 (t + 4) i = v.1 1 i + srcr v p (nn v 2) i + srcd v p (nn v 3) i - srcw v z i) ?_ ?_ FU 0 s (by omega) (FU_gt (by omega)) ⟨hs, fun i h => by rw [hm i h]; exact (Int.sub_zero _).symm⟩
  · intro f z s hz ⟨hs, hm⟩ hnext
    have hcs := kp s hs
    have h := hv.2.2.2.2.2.2.2.2.2 z hz
    obtain ⟨x, hx⟩ : ∃ x : Nat, v.1 13 z = x := ⟨(v.1 13 z).toNat, by omega⟩
    have rb := hv.2.2.2.2.2.1 x (by omega)
    have sb := srcr_b hv p x (nn v 2) (Nat.le_refl _)
    have db := srcd_b hv p x (nn v 3) (Nat.le_refl _)
    have wb := srcw_b hv x z (by omega)
    show Rt (k_X6_gatherSources_225 t b (f + 1) (z : Int) s) _
    rw [k_X6_gatherSources_225, lcN4 hcs, lcA13 hcs, lcA16 hcs, hx]
    refine Rt_pos (by omega) (Rt_ck (by omega) (Rt_ck (by omega) (Rt_ck (by omega) (Rt_ck (by omega) (Rt_lm (Rt_lt ?_))))))
    rw [w32s (by omega)]
    refine hnext _ ⟨hs.a (Eq.refl _), fun i hi => ?_⟩
    rw [vec1 (e := -v.1 16 z) (by rw [w64i (by rw [hm x (by omega)]; omega) (by rw [hm x (by omega)]; omega)]; omega) i, hm i hi]
    show _ = _ - (srcw v z i + nb (v.1 13 z) i * v.1 16 z)
    rw [hx, Int.mul_neg]; omega
  intro f s ⟨hs, hm⟩
  have hcs := kp s hs
  show Rt (k_X6_gatherSources_225 t b (f + 1) (nn v 4 : Int) s) _
  rw [k_X6_gatherSources_225, lcN4 hcs]
  exact Rt_neg (by omega) (Rt_some ⟨hs, hm⟩)
theorem solve_spec {t a b : Nat} {p D : Int} {v : LV} (hv : wfL v) {s : GM} (hc : cV b s = v) {m : Nat → Nat → Int} (hadj : adjOK v p D m) (hm : ∀ i j, i < nn v 0 → j < nn v 0 → s.1 a (ix i j) = m i j) (hs : ∀ i : Nat, i < nn v 0 → s.1 (t + 4) i = src v p i) {c : Nat} (hcc : c < nn v 0) :
    f_X6_solve t a (c : Int) s = some (upv v p c, s) := by
  have n0 := nn_c hv 0 (by omega)
  have l0 := hv.1
  have r : Rt (f_X6_solve t a (c : Int) s) (fun r μ => r = upv v p c ∧ μ = s) := by
    unfold f_X6_solve
    refine Rt_loop (fun f z (q : Int × GM) => k_X6_solve_5 t a f (c : Int) q.1 z q.2) _ (nn v 0) (fun z q => q.2 = s ∧ q.1 = sumn z (fun i => m c i * src v p i)) ?_ ?_ FU 0 (0, s) (by omega) (FU_gt (by omega)) ⟨rfl, rfl⟩
    · intro f z q hz ⟨h1, h2⟩ hnext
      obtain ⟨q1, q2⟩ := q
      have h1' : q2 = s := h1
      have h2' : q1 = sumn z (fun i => m c i * src v p i) := h2
      subst h1'
      subst h2'
      show Rt (k_X6_solve_5 t a (f + 1) (c : Int) (sumn z (fun i => m c i * src v p i)) (z : Int) q2) _
      rw [k_X6_solve_5, lcN0 hc, w32_6r (i := c) (j := z) (by omega) (by omega), hm c z hcc hz, hs z hz]
      have e : sumn (z + 1) (fun i => m c i * src v p i) = sumn z (fun i => m c i * src v p i) + m c z * src v p z := rfl
      have b1 := tops_part hv hadj hcc z (by omega)
      have b2 := tops_part hv hadj hcc (z + 1) (by omega)
      refine Rt_pos (by omega) (Rt_ck (ix_ok (by omega) (by omega)) (Rt_ck (by omega) (Rt_lt (Rt_lt ?_))))
      rw [w32s (by omega), w64i (x := m c z * src v p z) (by omega) (by omega), w64i (by omega) (by omega)]
      exact hnext (sumn z (fun i => m c i * src v p i) + m c z * src v p z, q2) ⟨rfl, rfl⟩
    · intro f q ⟨h1, h2⟩
      obtain ⟨q1, q2⟩ := q
      have h1' : q2 = s := h1
      have h2' : q1 = sumn (nn v 0) (fun i => m c i * src v p i) := h2
      subst h1'
      show Rt (k_X6_solve_5 t a (f + 1) (c : Int) q1 (nn v 0 : Int) q2) _
      rw [k_X6_solve_5, lcN0 hc]
      refine Rt_neg (by omega) (Rt_some ⟨?_, rfl⟩)
      rw [h2', tops_eq hv hadj hcc]
  obtain ⟨x, μ, h1, h2, h3⟩ := r
  rw [h1, h2, h3]
theorem fits_spec {t a b : Nat} (ht : gRt t) {p : Int} {v : LV} (hv : wfL v) (hb : b < 53) {s : GM} (ha : a ≠ t + 5) (hc : cV b s = v) {m : Nat → Nat → Int} (hadj : adjOK v p (detv v p) m) (hm : ∀ i j, i < nn v 0 → j < nn v 0 → s.1 a (ix i j) = m i j) (hs : ∀ i : Nat, i < nn v 0 → s.1 (t + 4) i = src v p i) (hD : s.2 t 7 = detv v p) :
    Rt (f_X6_fits t a p s) (fun r μ => (r = 1 ∧ fitv v p ∧ ofr (fun k => k = t + 5) nF s μ ∧ ∀ c : Nat, c < nn v 0 → μ.1 (t + 5) c = upv v p c) ∨ (r = 0 ∧ ¬ fitv v p ∧ μ = s)) := by
  have ht94 : 94 ≤ t := by rcases ht with h | h <;> omega
  have n0 := nn_c hv 0 (by omega)
  have n2 := nn_c hv 2 (by omega)
  have n3 := nn_c hv 3 (by omega)
  have l0 := hv.1
  have l2 := hv.2.2.1
  have l3 := hv.2.2.2.1
  have dr := hadj.2.1
  unfold f_X6_fits
  refine Rt_loop (fun f z s' => k_X6_fits_2 t a f p z s') _ (nn v 2) (fun z s' => s' = s ∧ ∀ r, r < z → (v.1 8 r * detv v p ≤ upv v p (v.1 6 r).toNat ↔ bt p r)) ?_ ?_ FU 0 s (by omega) (FU_gt (by omega)) ⟨rfl, fun r h => by omega⟩
  · intro f z s' hz ⟨e, hr⟩ hnext
    subst e
    have h := hv.2.2.2.2.2.2.2.1 z hz
    obtain ⟨x, hx⟩ : ∃ x : Nat, v.1 6 z = x := ⟨(v.1 6 z).toNat, by omega⟩
    show Rt (k_X6_fits_2 t a (f + 1) p (z : Int) s') _
    rw [k_X6_fits_2, lcN2 hc, lcA6 hc, hx]
    refine Rt_pos (by omega) (Rt_ck (by omega) (Rt_bde (solve_spec hv hc hadj hm hs (show x < nn v 0 by omega)) (Rt_ck (by omega) ?_)))
    have bD := mul_mono (a := v.1 8 z) (b := 1000) (c := detv v p) (d := 6780000000) (by omega) (by omega) (by omega) (by omega)
    have bD0 := Int.mul_nonneg (show 0 ≤ v.1 8 z by omega) (show 0 ≤ detv v p by omega)
    rw [lcA8 hc, hD, w64i (by omega) (by omega)]
    have goodstep : (v.1 8 z * detv v p ≤ upv v p x ↔ bt p z) → Rt (k_X6_fits_2 t a f p ((z + 1 : Nat) : Int) s') (fun r μ => (r = 1 ∧ fitv v p ∧ ofr (fun k => k = t + 5) nF s' μ ∧ ∀ c : Nat, c < nn v 0 → μ.1 (t + 5) c = upv v p c) ∨ (r = 0 ∧ ¬ fitv v p ∧ μ = s')) := fun hiff => hnext s' ⟨rfl, fun r hr2 => by
      by_cases q : r = z
      · subst q; rw [hx, Int.toNat_natCast]; exact hiff
      · exact hr r (by omega)⟩
    have bad : ¬ (v.1 8 z * detv v p ≤ upv v p x ↔ bt p z) → ¬ fitv v p := fun hn hf => hn (by have := hf.1 z hz; rw [hx, Int.toNat_natCast] at this; exact this)
    refine Rt_if (fun q1 => ?_) (fun q1 => ?_)
    · unfold k_X6_fits_60
      refine Rt_if (fun q2 => ?_) (fun q2 => ?_)
      · unfold k_X6_fits_78
        exact Rt_neg (by decide) (Rt_some (Or.inr ⟨rfl, bad (fun hn => by have := hn.mpr q2; omega), rfl⟩))
      · unfold k_X6_fits_78
        refine Rt_pos rfl (Rt_lt ?_)
        rw [w32s (by omega)]
        exact goodstep ⟨fun h => by omega, fun h => absurd h q2⟩
    · unfold k_X6_fits_60
      refine Rt_if (fun q2 => ?_) (fun q2 => ?_)
      · unfold k_X6_fits_78
        refine Rt_pos rfl (Rt_lt ?_)
        rw [w32s (by omega)]
        exact goodstep ⟨fun _ => q2, fun _ => by omega⟩
      · unfold k_X6_fits_78
        exact Rt_neg (by decide) (Rt_some (Or.inr ⟨rfl, bad (fun hn => q2 (hn.mp (by omega))), rfl⟩))
  intro f s' ⟨e, hrAll⟩
  subst e
  show Rt (k_X6_fits_2 t a (f + 1) p (nn v 2 : Int) s') _
  rw [k_X6_fits_2, lcN2 hc]
  refine Rt_neg (by omega) ?_
  refine Rt_loop (fun f z s => k_X6_fits_91 t a f p z s) _ (nn v 3) (fun z q => q = s' ∧ ∀ d, d < z → (v.1 11 d * detv v p < upv v p (v.1 10 d).toNat ↔ bt p (d + 3))) ?_ ?_ FU 0 s' (by omega) (FU_gt (by omega)) ⟨rfl, fun r h => by omega⟩
  · intro f z q hz ⟨e, hr⟩ hnext
    subst e
    have h := hv.2.2.2.2.2.2.2.2.1 z hz
    obtain ⟨x, hx⟩ : ∃ x : Nat, v.1 10 z = x := ⟨(v.1 10 z).toNat, by omega⟩
    show Rt (k_X6_fits_91 t a (f + 1) p (z : Int) q) _
    rw [k_X6_fits_91, lcN3 hc, lcA10 hc, hx]
    refine Rt_pos (by omega) (Rt_ck (by omega) (Rt_bde (solve_spec hv hc hadj hm hs (show x < nn v 0 by omega)) (Rt_ck (by omega) ?_)))
    have bD := mul_mono (a := v.1 11 z) (b := 1000) (c := detv v p) (d := 6780000000) (by omega) (by omega) (by omega) (by omega)
    have bD0 := Int.mul_nonneg (show 0 ≤ v.1 11 z by omega) (show 0 ≤ detv v p by omega)
    rw [lcA11 hc, hD, w64i (by omega) (by omega)]
    have e3 : w32 (3 + (z : Int)) = ((z + 3 : Nat) : Int) := by rw [w32i (by omega) (by omega)]; omega
    have goodstep : (v.1 11 z * detv v p < upv v p x ↔ bt p (z + 3)) → Rt (k_X6_fits_91 t a f p ((z + 1 : Nat) : Int) q) (fun r μ => (r = 1 ∧ fitv v p ∧ ofr (fun k => k = t + 5) nF q μ ∧ ∀ c : Nat, c < nn v 0 → μ.1 (t + 5) c = upv v p c) ∨ (r = 0 ∧ ¬ fitv v p ∧ μ = q)) := fun hiff => hnext q ⟨rfl, fun r hr2 => by
      by_cases q : r = z
      · subst q; rw [hx, Int.toNat_natCast]; exact hiff
      · exact hr r (by omega)⟩
    have bad : ¬ (v.1 11 z * detv v p < upv v p x ↔ bt p (z + 3)) → ¬ fitv v p := fun hn hf => hn (by have := hf.2 z hz; rw [hx, Int.toNat_natCast] at this; exact this)
    refine Rt_if (fun q1 => ?_) (fun q1 => ?_)
    · unfold k_X6_fits_149
      rw [e3]
      refine Rt_if (fun q2 => ?_) (fun q2 => ?_)
      · unfold k_X6_fits_169
        refine Rt_pos rfl (Rt_lt ?_)
        rw [w32s (by omega)]
        exact goodstep ⟨fun _ => q2, fun _ => q1⟩
      · unfold k_X6_fits_169
        exact Rt_neg (by decide) (Rt_some (Or.inr ⟨rfl, bad (fun hn => q2 (hn.mp q1)), rfl⟩))
    · unfold k_X6_fits_149
      rw [e3]
      refine Rt_if (fun q2 => ?_) (fun q2 => ?_)
      · unfold k_X6_fits_169
        exact Rt_neg (by decide) (Rt_some (Or.inr ⟨rfl, bad (fun hn => q1 (hn.mpr q2)), rfl⟩))
      · unfold k_X6_fits_169
        refine Rt_pos rfl (Rt_lt ?_)
        rw [w32s (by omega)]
        exact goodstep ⟨fun h => absurd h q1, fun h => absurd h q2⟩
  intro f q ⟨e, hdAll⟩
  subst e
  show Rt (k_X6_fits_91 t a (f + 1) p (nn v 3 : Int) q) _
  rw [k_X6_fits_91, lcN3 hc]
  refine Rt_neg (by omega) ?_
  refine Rt_loop (fun f z s => k_X6_fits_182 t a f z s) _ (nn v 0) (fun z s => ofr (fun k => k = t + 5) nF q s ∧ ∀ c : Nat, c < z → s.1 (t + 5) c = upv v p c) ?_ ?_ FU 0 q (by omega) (FU_gt (by omega)) ⟨ofr.rfl, fun r h => by omega⟩
  · intro f z s hz ⟨hf, hv2⟩ hnext
    have hcs : cV b s = v := (cV_keep hf (fun k hk => by omega) (fun _ _ _ z => z) (by omega)).trans hc
    show Rt (k_X6_fits_182 t a (f + 1) (z : Int) s) _
    rw [k_X6_fits_182, lcN0 hcs]
    refine Rt_pos (by omega) (Rt_bde (solve_spec hv hcs hadj (fun i j hi hj => by rw [hf.1 a ha]; exact hm i j hi hj) (fun i hi => by rw [hf.1 (t + 4) (by omega)]; exact hs i hi) (show z < nn v 0 by omega)) (Rt_ck (by omega) (Rt_lm (Rt_lt ?_))))
    rw [w32s (by omega)]
    refine hnext _ ⟨hf.a (Eq.refl _), fun c hc2 => ?_⟩
    rw [gA_at]
    by_cases q2 : (c : Int) = (z : Int)
    · rw [if_pos q2, show c = z by omega]
    · rw [if_neg q2]; exact hv2 c (by omega)
  · intro f s ⟨hf, hv2⟩
    have hcs : cV b s = v := (cV_keep hf (fun k hk => by omega) (fun _ _ _ z => z) (by omega)).trans hc
    show Rt (k_X6_fits_182 t a (f + 1) (nn v 0 : Int) s) _
    rw [k_X6_fits_182, lcN0 hcs]
    exact Rt_neg (by omega) (Rt_some (Or.inl ⟨rfl, ⟨hrAll, hdAll⟩, hf, hv2⟩))
