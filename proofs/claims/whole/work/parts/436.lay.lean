/-! the matrix and the sources as the other side lays them -/
def PL : Nat → Prop := fun k => k = 74 ∨ k = 75
theorem lay_spec {p : Int} {v : LV} (hv : wfL v) {μ0 : GM} (hc : mV 72 73 μ0 = v) :
    Rt (f_X12_lay p μ0) (fun _ μ => ofr PL nF μ0 μ ∧ (∀ i j, i < 6 → j < 6 → μ.1 74 (ix i j) = mat v p i j) ∧ ∀ i : Nat, i < nn v 0 → μ.1 75 i = src v p i) := by
  have kp : ∀ s, ofr PL nF μ0 s → mV 72 73 s = v := fun s h => (mV_keep h (fun k _ _ => by unfold PL; omega) (fun _ _ _ z => z) (by unfold PL; omega) (by unfold PL; omega)).trans hc
  have i74 : PL 74 := Or.inl rfl
  have i75 : PL 75 := Or.inr rfl
  have n0 := nn_c hv 0 (by omega)
  have n1 := nn_c hv 1 (by omega)
  have n2 := nn_c hv 2 (by omega)
  have n3 := nn_c hv 3 (by omega)
  have n4 := nn_c hv 4 (by omega)
  have l0 := hv.1
  have l1 := hv.2.1
  have l2 := hv.2.2.1
  have l3 := hv.2.2.2.1
  have l4 := hv.2.2.2.2.1
  unfold f_X12_lay
  refine Rt_loop (fun f z s => k_X12_lay_2 f p z s) _ 36 (fun z s => ofr PL nF μ0 s ∧ ∀ i : Nat, i < z → s.1 74 i = 0) ?_ ?_ FU 0 μ0 (by omega) (FU_gt (by omega)) ⟨ofr.rfl, fun i h => by omega⟩
  · intro f z s hz ⟨hs, hm⟩ hnext
    show Rt (k_X12_lay_2 (f + 1) p (z : Int) s) _
    rw [k_X12_lay_2]
    refine Rt_pos (by omega) (Rt_ck (by omega) (Rt_lm (Rt_lt ?_)))
    rw [w32s (by omega)]
    refine hnext _ ⟨hs.a i74, fun i hi => ?_⟩
    rw [gA_at]
    by_cases q : (i : Int) = (z : Int)
    · rw [if_pos q]
    · rw [if_neg q]; exact hm i (by omega)
  intro f s ⟨hs, hz0⟩
  show Rt (k_X12_lay_2 (f + 1) p ((36 : Nat) : Int) s) _
  rw [k_X12_lay_2]
  refine Rt_neg (by omega) ?_
  refine Rt_loop (fun f z s => k_X12_lay_23 f p z s) _ (nn v 0) (fun z s => ofr PL nF μ0 s ∧ (∀ i : Nat, i < 36 → s.1 74 i = 0) ∧ ∀ i : Nat, i < z → s.1 75 i = v.1 1 i) ?_ ?_ FU 0 s (by omega) (FU_gt (by omega)) ⟨hs, hz0, fun i h => by omega⟩
  · intro f z s hz ⟨hs, hm0, hm⟩ hnext
    have hcs := kp s hs
    show Rt (k_X12_lay_23 (f + 1) p (z : Int) s) _
    rw [k_X12_lay_23, lmN0 hcs, lmA1 hcs]
    refine Rt_pos (by omega) (Rt_ck (by omega) (Rt_ck (by omega) (Rt_lm (Rt_lt ?_))))
    rw [w32s (by omega)]
    refine hnext _ ⟨hs.a i75, fun i hi => by rw [gA_nk _ _ _ (by decide)]; exact hm0 i hi, fun i hi => ?_⟩
    rw [gA_at]
    by_cases q : (i : Int) = (z : Int)
    · rw [if_pos q, q]
    · rw [if_neg q]; exact hm i (by omega)
  intro f s ⟨hs, hz0, hb0⟩
  have hcs := kp s hs
  show Rt (k_X12_lay_23 (f + 1) p (nn v 0 : Int) s) _
  rw [k_X12_lay_23, lmN0 hcs]
  refine Rt_neg (by omega) ?_
  refine Rt_loop (fun f z s => k_X12_lay_52 f p z s) _ (nn v 1) (fun z s => ofr PL nF μ0 s ∧ (∀ i j, i < 6 → j < 6 → s.1 74 (ix i j) = lapn v z i j) ∧ ∀ i : Nat, i < nn v 0 → s.1 75 i = v.1 1 i) ?_ ?_ FU 0 s (by omega) (FU_gt (by omega)) ⟨hs, fun i j hi hj => hz0 _ (by omega), hb0⟩
  · intro f z s hz ⟨hs, hm, hb⟩ hnext
    have hcs := kp s hs
    have h := hv.2.2.2.2.2.2.1 z hz
    obtain ⟨x, hx⟩ : ∃ x : Nat, v.1 3 z = x := ⟨(v.1 3 z).toNat, by omega⟩
    obtain ⟨y, hy⟩ : ∃ y : Nat, v.1 4 z = y := ⟨(v.1 4 z).toNat, by omega⟩
    have a72 : (72 : Nat) ≠ 74 := by decide
    show Rt (k_X12_lay_52 (f + 1) p (z : Int) s) _
    rw [k_X12_lay_52, lmN1 hcs, lmA3 hcs, lmA4 hcs, hx, hy]
    refine Rt_pos (by omega) (Rt_ck (by omega) (Rt_lt (Rt_ck (by omega) (Rt_lt ?_))))
    rw [w32_7 (i := x) (by omega), w32_7 (i := y) (by omega), w32_6 (i := x) (j := y) (by omega) (by omega), w32_6 (i := y) (j := x) (by omega) (by omega)]
    have kx := ix_ok (i := x) (j := x) (by omega) (by omega)
    have ky := ix_ok (i := y) (j := y) (by omega) (by omega)
    have kxy := ix_ok (i := x) (j := y) (by omega) (by omega)
    have kyx := ix_ok (i := y) (j := x) (by omega) (by omega)
    refine Rt_ck kx (Rt_ck (by omega) (Rt_ck kx (Rt_lm (Rt_ck ky (Rt_ck (by omega) (Rt_ck ky (Rt_lm (Rt_ck kxy (Rt_ck (by omega) (Rt_ck kxy (Rt_lm (Rt_ck kyx (Rt_ck (by omega) (Rt_ck kyx (Rt_lm (Rt_lt ?_))))))))))))))))
    simp only [gA_nk _ _ _ a72]
    rw [w32s (by omega), lmA5 hcs]
    refine hnext _ ⟨(((hs.a i74).a i74).a i74).a i74, fun i j hi hj => ?_, fun i hi => by
      rw [gA_nk _ _ _ (by decide), gA_nk _ _ _ (by decide), gA_nk _ _ _ (by decide), gA_nk _ _ _ (by decide)]; exact hb i hi⟩
    have bb := lapn_b hv z (by omega)
    refine (link4 (s := s) (a := 74) (x := x) (y := y) (e := v.1 5 z) (by omega) (by omega) (by omega) (by omega) (by omega) (fun i j hi hj => by
      rw [hm i j hi hj]
      have := bb i j
      omega) rfl rfl rfl rfl i j hi hj).trans ?_
    rw [hm i j hi hj]
    show _ = lapn v z i j + v.1 5 z * (xl v z i * xl v z j)
    unfold xl
    rw [hx, hy, nb_uv, nb_uv, nb_uv, nb_uv]
  intro f s ⟨hs, hm, hb⟩
  have hcs := kp s hs
  show Rt (k_X12_lay_52 (f + 1) p (nn v 1 : Int) s) _
  rw [k_X12_lay_52, lmN1 hcs]
  refine Rt_neg (by omega) ?_
  refine Rt_loop (fun f z s => k_X12_lay_166 f p z s) _ (nn v 2) (fun z s => ofr PL nF μ0 s ∧ (∀ i j, i < 6 → j < 6 → s.1 74 (ix i j) = lapn v (nn v 1) i j + (if i = j then tien v p z i else 0)) ∧ ∀ i : Nat, i < nn v 0 → s.1 75 i = v.1 1 i + srcr v p z i) ?_ ?_ FU 0 s (by omega) (FU_gt (by omega)) ⟨hs, fun i j hi hj => by
      rw [hm i j hi hj]
      have : (if i = j then tien v p 0 i else 0) = 0 := by split <;> rfl
      rw [this, Int.add_zero], fun i h => by rw [hb i h]; exact (Int.add_zero _).symm⟩
  · intro f z s hz ⟨hs, hm, hb⟩ hnext
    have hcs := kp s hs
    have h := hv.2.2.2.2.2.2.2.1 z hz
    obtain ⟨x, hx⟩ : ∃ x : Nat, v.1 6 z = x := ⟨(v.1 6 z).toNat, by omega⟩
    have rb := hv.2.2.2.2.2.1 x (by omega)
    have sb := srcr_b hv p x z (by omega)
    show Rt (k_X12_lay_166 (f + 1) p (z : Int) s) _
    rw [k_X12_lay_166, lmN2 hcs, lmA6 hcs, lmA9 hcs, hx]
    refine Rt_pos (by omega) (Rt_if (fun hq => ?_) (fun hq => ?_))
    · rw [w32_7 (i := x) (by omega)]
      have kx := ix_ok (i := x) (j := x) (by omega) (by omega)
      have lb := lapn_b hv (nn v 1) (Nat.le_refl _) x x
      have tb := tien_b hv p x z (by omega)
      have sv := hm x x (by omega) (by omega)
      rw [if_pos rfl] at sv
      have a60 : (60 : Nat) ≠ 74 := by decide
      have a61 : (61 : Nat) ≠ 74 := by decide
      have a63 : (63 : Nat) ≠ 74 := by decide
      have a75 : (75 : Nat) ≠ 74 := by decide
      refine Rt_ck (by omega) (Rt_ck kx (Rt_ck (by omega) (Rt_ck kx (Rt_lm ?_))))
      simp only [gA_nk _ _ _ a60, gA_nk _ _ _ a61, gA_nk _ _ _ a63, gA_nk _ _ _ a75]
      rw [lmA6 hcs, hx, lmA7 hcs, lmA9 hcs]
      have m := mul_mono (a := v.1 9 z) (b := 9) (c := v.1 7 z) (d := 1000) (by omega) (by omega) (by omega) (by omega)
      have m0 := Int.mul_nonneg (show 0 ≤ v.1 9 z by omega) (show 0 ≤ v.1 7 z by omega)
      refine Rt_ck (by omega) (Rt_ck (by omega) (Rt_ck (by omega) (Rt_ck (by omega) (Rt_ck (by omega) (Rt_lm (Rt_lt ?_))))))
      rw [w32s (by omega), w32i (x := v.1 9 z * v.1 7 z) (by omega) (by omega)]
      refine hnext _ ⟨(hs.a i74).a i75, fun i j hi hj => ?_, fun i hi => ?_⟩
      · rw [gA_nk _ _ _ (by decide), diag1 (s := s) (a := 74) (e := v.1 9 z) (by omega) (w64i (by omega) (by omega)) i j hi hj, hm i j hi hj]
        by_cases q : i = j
        · rw [if_pos q, if_pos q, if_pos q]
          show _ = _ + (tien v p z i + (if bt p z then nb (v.1 6 z) i * v.1 9 z else 0))
          rw [if_pos hq, hx]; omega
        · rw [if_neg q, if_neg q, if_neg q]; omega
      · have hbx : (gA s 74 (ix x x) (w64 (s.1 74 (ix x x) + v.1 9 z))).1 75 (x : Int) = v.1 1 x + srcr v p z x := by rw [gA_nk _ _ _ a75]; exact hb x (by omega)
        rw [vec1 (s := gA s 74 (ix x x) (w64 (s.1 74 (ix x x) + v.1 9 z))) (e := v.1 9 z * v.1 7 z) (by rw [hbx, hb x (by omega), w64i (by omega) (by omega)]) i, gA_nk _ _ _ a75, hb i hi]
        show _ = _ + (srcr v p z i + nb (v.1 6 z) i * (v.1 9 z * (if bt p z then v.1 7 z else v.1 7 z - v.1 8 z)))
        rw [if_pos hq, hx]; omega
    · rw [lmA7 hcs, lmA8 hcs]
      have m := mul_mono (a := v.1 9 z) (b := 9) (c := v.1 7 z - v.1 8 z) (d := 1000) (by omega) (by omega) (by omega) (by omega)
      have m0 := Int.mul_nonneg (show 0 ≤ v.1 9 z by omega) (show 0 ≤ v.1 7 z - v.1 8 z by omega)
      refine Rt_ck (by omega) (Rt_ck (by omega) (Rt_ck (by omega) (Rt_ck (by omega) (Rt_ck (by omega) (Rt_ck (by omega) (Rt_lm (Rt_lt ?_)))))))
      rw [w32s (by omega), w32i (x := v.1 7 z - v.1 8 z) (by omega) (by omega), w32i (x := v.1 9 z * (v.1 7 z - v.1 8 z)) (by omega) (by omega)]
      refine hnext _ ⟨hs.a i75, fun i j hi hj => ?_, fun i hi => ?_⟩
      · rw [gA_nk _ _ _ (by decide), hm i j hi hj]
        by_cases q : i = j
        · rw [if_pos q, if_pos q]
          show _ = _ + (tien v p z i + (if bt p z then nb (v.1 6 z) i * v.1 9 z else 0))
          rw [if_neg hq]; omega
        · rw [if_neg q, if_neg q]
      · rw [vec1 (s := s) (e := v.1 9 z * (v.1 7 z - v.1 8 z)) (by rw [hb x (by omega), w64i (by omega) (by omega)]) i, hb i hi]
        show _ = _ + (srcr v p z i + nb (v.1 6 z) i * (v.1 9 z * (if bt p z then v.1 7 z else v.1 7 z - v.1 8 z)))
        rw [if_neg hq, hx]; omega
  intro f s ⟨hs, hm, hb⟩
  have hcs := kp s hs
  show Rt (k_X12_lay_166 (f + 1) p (nn v 2 : Int) s) _
  rw [k_X12_lay_166, lmN2 hcs]
  refine Rt_neg (by omega) ?_
  refine Rt_loop (fun f z s => k_X12_lay_281 f p z s) _ (nn v 3) (fun z s => ofr PL nF μ0 s ∧ (∀ i j, i < 6 → j < 6 → s.1 74 (ix i j) = lapn v (nn v 1) i j + (if i = j then tien v p (nn v 2) i + rund v p z i else 0)) ∧ ∀ i : Nat, i < nn v 0 → s.1 75 i = v.1 1 i + srcr v p (nn v 2) i + srcd v p z i) ?_ ?_ FU 0 s (by omega) (FU_gt (by omega)) ⟨hs, fun i j hi hj => by
      rw [hm i j hi hj]
      have : tien v p (nn v 2) i + rund v p 0 i = tien v p (nn v 2) i := Int.add_zero _
      rw [this], fun i h => by rw [hb i h]; exact (Int.add_zero _).symm⟩
  · intro f z s hz ⟨hs, hm, hb⟩ hnext
    have hcs := kp s hs
    have h := hv.2.2.2.2.2.2.2.2.1 z hz
    obtain ⟨x, hx⟩ : ∃ x : Nat, v.1 10 z = x := ⟨(v.1 10 z).toNat, by omega⟩
    have rb := hv.2.2.2.2.2.1 x (by omega)
    have sb := srcr_b hv p x (nn v 2) (Nat.le_refl _)
    have db := srcd_b hv p x z (by omega)
    show Rt (k_X12_lay_281 (f + 1) p (z : Int) s) _
    rw [k_X12_lay_281, lmN3 hcs, lmA10 hcs, lmA12 hcs, hx, show w32 ((z : Int) + 3) = ((z + 3 : Nat) : Int) by rw [w32i (by omega) (by omega)]; omega]
    refine Rt_pos (by omega) (Rt_if (fun hq => ?_) (fun hq => Rt_lt ?_))
    · rw [w32_7 (i := x) (by omega)]
      have kx := ix_ok (i := x) (j := x) (by omega) (by omega)
      have lb := lapn_b hv (nn v 1) (Nat.le_refl _) x x
      have tb := tien_b hv p x (nn v 2) (Nat.le_refl _)
      have rb2 := rund_b hv p x z (by omega)
      have sv := hm x x (by omega) (by omega)
      rw [if_pos rfl] at sv
      have a64 : (64 : Nat) ≠ 74 := by decide
      have a65 : (65 : Nat) ≠ 74 := by decide
      have a66 : (66 : Nat) ≠ 74 := by decide
      have a75 : (75 : Nat) ≠ 74 := by decide
      refine Rt_ck (by omega) (Rt_ck kx (Rt_ck (by omega) (Rt_ck kx (Rt_lm ?_))))
      simp only [gA_nk _ _ _ a64, gA_nk _ _ _ a65, gA_nk _ _ _ a66, gA_nk _ _ _ a75]
      rw [lmA10 hcs, hx, lmA11 hcs, lmA12 hcs]
      have m := mul_mono (a := v.1 12 z) (b := 9) (c := v.1 11 z) (d := 1000) (by omega) (by omega) (by omega) (by omega)
      have m0 := Int.mul_nonneg (show 0 ≤ v.1 12 z by omega) (show 0 ≤ v.1 11 z by omega)
      refine Rt_ck (by omega) (Rt_ck (by omega) (Rt_ck (by omega) (Rt_ck (by omega) (Rt_ck (by omega) (Rt_lm (Rt_lt ?_))))))
      rw [w32s (by omega), w32i (x := v.1 12 z * v.1 11 z) (by omega) (by omega)]
      refine hnext _ ⟨(hs.a i74).a i75, fun i j hi hj => ?_, fun i hi => ?_⟩
      · rw [gA_nk _ _ _ (by decide), diag1 (s := s) (a := 74) (e := v.1 12 z) (by omega) (w64i (by omega) (by omega)) i j hi hj, hm i j hi hj]
        by_cases q : i = j
        · rw [if_pos q, if_pos q, if_pos q]
          show _ = _ + (_ + (rund v p z i + (if bt p (z + 3) then nb (v.1 10 z) i * v.1 12 z else 0)))
          rw [if_pos hq, hx]; omega
        · rw [if_neg q, if_neg q, if_neg q]; omega
      · have hbx : (gA s 74 (ix x x) (w64 (s.1 74 (ix x x) + v.1 12 z))).1 75 (x : Int) = v.1 1 x + srcr v p (nn v 2) x + srcd v p z x := by rw [gA_nk _ _ _ a75]; exact hb x (by omega)
        rw [vec1 (s := gA s 74 (ix x x) (w64 (s.1 74 (ix x x) + v.1 12 z))) (e := v.1 12 z * v.1 11 z) (by rw [hbx, hb x (by omega), w64i (by omega) (by omega)]) i, gA_nk _ _ _ a75, hb i hi]
        show _ = _ + (srcd v p z i + (if bt p (z + 3) then nb (v.1 10 z) i * (v.1 12 z * v.1 11 z) else 0))
        rw [if_pos hq, hx]; omega
    · rw [w32s (by omega)]
      refine hnext _ ⟨hs, fun i j hi hj => ?_, fun i hi => ?_⟩
      · rw [hm i j hi hj]
        by_cases q : i = j
        · rw [if_pos q, if_pos q]
          show _ = _ + (_ + (rund v p z i + (if bt p (z + 3) then nb (v.1 10 z) i * v.1 12 z else 0)))
          rw [if_neg hq]; omega
        · rw [if_neg q, if_neg q]
      · rw [hb i hi]
        show _ = _ + (srcd v p z i + (if bt p (z + 3) then nb (v.1 10 z) i * (v.1 12 z * v.1 11 z) else 0))
        rw [if_neg hq]; omega
  intro f s ⟨hs, hm, hb⟩
  have hcs := kp s hs
  show Rt (k_X12_lay_281 (f + 1) p (nn v 3 : Int) s) _
  rw [k_X12_lay_281, lmN3 hcs]
  refine Rt_neg (by omega) ?_
  refine Rt_loop (fun f z s => k_X12_lay_360 f z s) _ (nn v 4) (fun z s => ofr PL nF μ0 s ∧ (∀ i j, i < 6 → j < 6 → s.1 74 (ix i j) = mat v p i j) ∧ ∀ i : Nat, i < nn v 0 → s.1 75 i = v.1 1 i + srcr v p (nn v 2) i + srcd v p (nn v 3) i - srcw v z i) ?_ ?_ FU 0 s (by omega) (FU_gt (by omega)) ⟨hs, hm, fun i h => by rw [hb i h]; exact (Int.sub_zero _).symm⟩
  · intro f z s hz ⟨hs, hm, hb⟩ hnext
    have hcs := kp s hs
    have h := hv.2.2.2.2.2.2.2.2.2 z hz
    obtain ⟨x, hx⟩ : ∃ x : Nat, v.1 13 z = x := ⟨(v.1 13 z).toNat, by omega⟩
    have rb := hv.2.2.2.2.2.1 x (by omega)
    have sb := srcr_b hv p x (nn v 2) (Nat.le_refl _)
    have db := srcd_b hv p x (nn v 3) (Nat.le_refl _)
    have wb := srcw_b hv x z (by omega)
    show Rt (k_X12_lay_360 (f + 1) (z : Int) s) _
    rw [k_X12_lay_360, lmN4 hcs, lmA13 hcs, lmA16 hcs, hx]
    refine Rt_pos (by omega) (Rt_ck (by omega) (Rt_ck (by omega) (Rt_ck (by omega) (Rt_ck (by omega) (Rt_lm (Rt_lt ?_))))))
    rw [w32s (by omega)]
    refine hnext _ ⟨hs.a i75, fun i j hi hj => by rw [gA_nk _ _ _ (by decide)]; exact hm i j hi hj, fun i hi => ?_⟩
    rw [vec1 (s := s) (e := -v.1 16 z) (by rw [w64i (by rw [hb x (by omega)]; omega) (by rw [hb x (by omega)]; omega)]; omega) i, hb i hi]
    show _ = _ - (srcw v z i + nb (v.1 13 z) i * v.1 16 z)
    rw [hx, Int.mul_neg]; omega
  intro f s ⟨hs, hm, hb⟩
  have hcs := kp s hs
  show Rt (k_X12_lay_360 (f + 1) (nn v 4 : Int) s) _
  rw [k_X12_lay_360, lmN4 hcs]
  exact Rt_neg (by omega) (Rt_some ⟨hs, hm, hb⟩)
