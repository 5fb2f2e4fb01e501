/-! the matrix as it is laid by the one side -/
theorem abs_mul {x y a b : Int} (h1 : -a ≤ x) (h2 : x ≤ a) (h3 : -b ≤ y) (h4 : y ≤ b) : -(a * b) ≤ x * y ∧ x * y ≤ a * b := by
  have h := Nat.mul_le_mul (show x.natAbs ≤ a.natAbs by omega) (show y.natAbs ≤ b.natAbs by omega)
  rw [← Int.natAbs_mul, ← Int.natAbs_mul] at h
  have p := Int.mul_nonneg (show 0 ≤ a by omega) (show 0 ≤ b by omega)
  omega
theorem abs_tdiv {x D b : Int} (h1 : -b ≤ x) (h2 : x ≤ b) : -b ≤ x.tdiv D ∧ x.tdiv D ≤ b := by
  have h : (x.tdiv D).natAbs = x.natAbs / D.natAbs := Int.natAbs_tdiv x D
  have h3 := Nat.div_le_self x.natAbs D.natAbs
  omega
theorem tien_b {v : LV} (hv : wfL v) (p : Int) (i : Nat) : ∀ z, z ≤ nn v 2 → 0 ≤ tien v p z i ∧ tien v p z i ≤ 9 * (z : Int)
  | 0, _ => ⟨by show (0 : Int) ≤ 0; omega, by show (0 : Int) ≤ _; omega⟩
  | z + 1, hz => by
    have ih := tien_b hv p i z (by omega)
    have h := hv.2.2.2.2.2.2.2.1 z (by omega)
    have e : tien v p (z + 1) i = tien v p z i + (if bt p z then nb (v.1 6 z) i * v.1 9 z else 0) := rfl
    have c : 0 ≤ (if bt p z then nb (v.1 6 z) i * v.1 9 z else 0) ∧ (if bt p z then nb (v.1 6 z) i * v.1 9 z else 0) ≤ 9 := by
      split
      · unfold nb; split <;> omega
      · omega
    rw [e]
    constructor <;> omega
theorem rund_b {v : LV} (hv : wfL v) (p : Int) (i : Nat) : ∀ z, z ≤ nn v 3 → 0 ≤ rund v p z i ∧ rund v p z i ≤ 9 * (z : Int)
  | 0, _ => ⟨by show (0 : Int) ≤ 0; omega, by show (0 : Int) ≤ _; omega⟩
  | z + 1, hz => by
    have ih := rund_b hv p i z (by omega)
    have h := hv.2.2.2.2.2.2.2.2.1 z (by omega)
    have e : rund v p (z + 1) i = rund v p z i + (if bt p (z + 3) then nb (v.1 10 z) i * v.1 12 z else 0) := rfl
    have c : 0 ≤ (if bt p (z + 3) then nb (v.1 10 z) i * v.1 12 z else 0) ∧ (if bt p (z + 3) then nb (v.1 10 z) i * v.1 12 z else 0) ≤ 9 := by
      split
      · unfold nb; split <;> omega
      · omega
    rw [e]
    constructor <;> omega
theorem nb_ne {x : Nat} {i : Nat} (h : x ≠ i) : nb (x : Int) i = 0 := by unfold nb; rw [if_neg (by omega)]
theorem nb_self (x : Nat) : nb (x : Int) x = 1 := by unfold nb; rw [if_pos rfl]
/-- a number laid upon the diagonal -/
theorem diag1 {s : GM} {a x : Nat} {w : Int} (hx : x < 6) {e : Int} (hw : w = s.1 a (ix x x) + e) : ∀ i j, i < 6 → j < 6 → (gA s a (ix x x) w).1 a (ix i j) = s.1 a (ix i j) + (if i = j then nb (x : Int) i * e else 0) := by
  intro i j hi hj
  rw [gA_at]
  by_cases q : ix i j = ix x x
  · obtain ⟨q1, q2⟩ := ix_inj hj hx q
    subst q1
    subst q2
    rw [if_pos q, if_pos rfl, nb_self, hw, Int.one_mul]
  · rw [if_neg q]
    by_cases q2 : i = j
    · subst q2
      have : x ≠ i := fun z => q (by rw [z])
      rw [if_pos rfl, nb_ne this, Int.zero_mul, Int.add_zero]
    · rw [if_neg q2, Int.add_zero]
theorem fillm_spec {t a b : Nat} {p : Int} {v : LV} (hv : wfL v) (ha : 53 ≤ a) (hb : b < 53) (hl : gLen a = 36) {μ0 : GM} (hc : cV b μ0 = v) :
    Rt (f_X6_fillMatrix t a p μ0) (fun _ μ => ofr (fun k => k = a) nF μ0 μ ∧ ∀ i j, i < 6 → j < 6 → μ.1 a (ix i j) = mat v p i j) := by
  have kp : ∀ s, ofr (fun k => k = a) nF μ0 s → cV b s = v := fun s h => (cV_keep h (fun k hk => by omega) (fun _ _ _ z => z) (by omega)).trans hc
  have n0 := nn_c hv 0 (by omega)
  have n1 := nn_c hv 1 (by omega)
  have n2 := nn_c hv 2 (by omega)
  have n3 := nn_c hv 3 (by omega)
  have l0 := hv.1
  have l1 := hv.2.1
  have l2 := hv.2.2.1
  have l3 := hv.2.2.2.1
  unfold f_X6_fillMatrix
  refine Rt_bd (fillL_spec hl (by omega) 0 μ0) (fun _ μ1 ⟨hμ1, hz1⟩ => ?_)
  refine Rt_loop (fun f z s => k_X6_fillMatrix_16 t a f p z s) _ (nn v 1) (fun z s => ofr (fun k => k = a) nF μ0 s ∧ ∀ i j, i < 6 → j < 6 → s.1 a (ix i j) = lapn v z i j) ?_ ?_ FU 0 μ1 (by omega) (FU_gt (by omega)) ⟨hμ1, fun i j hi hj => hz1 _ (by omega)⟩
  · intro f z s hz ⟨hs, hm⟩ hnext
    have hcs := kp s hs
    have h := hv.2.2.2.2.2.2.1 z hz
    obtain ⟨x, hx⟩ : ∃ x : Nat, v.1 3 z = x := ⟨(v.1 3 z).toNat, by omega⟩
    obtain ⟨y, hy⟩ : ∃ y : Nat, v.1 4 z = y := ⟨(v.1 4 z).toNat, by omega⟩
    have a8 : (8 : Nat) ≠ a := by omega
    show Rt (k_X6_fillMatrix_16 t a (f + 1) p (z : Int) s) _
    rw [k_X6_fillMatrix_16, lcN1 hcs, lcA3 hcs, lcA4 hcs, hx, hy]
    refine Rt_pos (by omega) (Rt_ck (by omega) (Rt_lt (Rt_ck (by omega) (Rt_lt ?_))))
    rw [w32_7r (i := x) (by omega), w32_7r (i := y) (by omega), w32_6r (i := x) (j := y) (by omega) (by omega), w32_6r (i := y) (j := x) (by omega) (by omega)]
    have kx := ix_ok (i := x) (j := x) (by omega) (by omega)
    have ky := ix_ok (i := y) (j := y) (by omega) (by omega)
    have kxy := ix_ok (i := x) (j := y) (by omega) (by omega)
    have kyx := ix_ok (i := y) (j := x) (by omega) (by omega)
    refine Rt_ck kx (Rt_ck (by omega) (Rt_ck kx (Rt_lm (Rt_ck ky (Rt_ck (by omega) (Rt_ck ky (Rt_lm (Rt_ck kxy (Rt_ck (by omega) (Rt_ck kxy (Rt_lm (Rt_ck kyx (Rt_ck (by omega) (Rt_ck kyx (Rt_lm (Rt_lt ?_))))))))))))))))
    simp only [gA_nk _ _ _ a8]
    rw [w32s (by omega), lcA5 hcs]
    refine hnext _ ⟨(((hs.a (Eq.refl a)).a (Eq.refl a)).a (Eq.refl a)).a (Eq.refl a), fun i j hi hj => ?_⟩
    have bb := lapn_b hv z (by omega)
    refine (link4 (s := s) (a := a) (x := x) (y := y) (e := v.1 5 z) (by omega) (by omega) (by omega) (by omega) (by omega) (fun i j hi hj => by
      rw [hm i j hi hj]
      have := bb i j
      omega) rfl rfl rfl rfl i j hi hj).trans ?_
    rw [hm i j hi hj]
    show _ = lapn v z i j + v.1 5 z * (xl v z i * xl v z j)
    unfold xl
    rw [hx, hy, nb_uv, nb_uv, nb_uv, nb_uv]
  · intro f s ⟨hs, hm⟩
    have hcs := kp s hs
    show Rt (k_X6_fillMatrix_16 t a (f + 1) p (nn v 1 : Int) s) _
    rw [k_X6_fillMatrix_16, lcN1 hcs]
    refine Rt_neg (by omega) ?_
    refine Rt_loop (fun f z s => k_X6_fillMatrix_130 t a f p z s) _ (nn v 2) (fun z s => ofr (fun k => k = a) nF μ0 s ∧ ∀ i j, i < 6 → j < 6 → s.1 a (ix i j) = lapn v (nn v 1) i j + (if i = j then tien v p z i else 0)) ?_ ?_ FU 0 s (by omega) (FU_gt (by omega)) ⟨hs, fun i j hi hj => by
      rw [hm i j hi hj]
      have : (if i = j then tien v p 0 i else 0) = 0 := by split <;> rfl
      rw [this, Int.add_zero]⟩
    · intro f z s hz ⟨hs, hm⟩ hnext
      have hcs := kp s hs
      have h := hv.2.2.2.2.2.2.2.1 z hz
      obtain ⟨x, hx⟩ : ∃ x : Nat, v.1 6 z = x := ⟨(v.1 6 z).toNat, by omega⟩
      show Rt (k_X6_fillMatrix_130 t a (f + 1) p (z : Int) s) _
      rw [k_X6_fillMatrix_130, lcN2 hcs]
      refine Rt_pos (by omega) (Rt_if (fun hq => ?_) (fun hq => ?_))
      · unfold k_X6_fillMatrix_160
        refine Rt_neg (by decide) ?_
        rw [lcA6 hcs, hx, lcA9 hcs, w32_7r (i := x) (by omega)]
        have kx := ix_ok (i := x) (j := x) (by omega) (by omega)
        have lb := lapn_b hv (nn v 1) (Nat.le_refl _) x x
        have tb := tien_b hv p x z (by omega)
        have sv := hm x x (by omega) (by omega)
        rw [if_pos rfl] at sv
        refine Rt_ck (by omega) (Rt_ck kx (Rt_ck (by omega) (Rt_ck kx (Rt_lm (Rt_lt ?_)))))
        rw [w32s (by omega)]
        refine hnext _ ⟨hs.a (Eq.refl a), fun i j hi hj => ?_⟩
        rw [diag1 (s := s) (a := a) (e := v.1 9 z) (by omega) (w64i (by omega) (by omega)) i j hi hj, hm i j hi hj]
        by_cases q : i = j
        · rw [if_pos q, if_pos q, if_pos q]
          show _ = _ + (tien v p z i + (if bt p z then nb (v.1 6 z) i * v.1 9 z else 0))
          rw [if_pos hq, hx]; omega
        · rw [if_neg q, if_neg q, if_neg q]; omega
      · unfold k_X6_fillMatrix_160
        refine Rt_pos rfl (Rt_lt ?_)
        rw [w32s (by omega)]
        refine hnext _ ⟨hs, fun i j hi hj => ?_⟩
        rw [hm i j hi hj]
        by_cases q : i = j
        · rw [if_pos q, if_pos q]
          show _ = _ + (tien v p z i + (if bt p z then nb (v.1 6 z) i * v.1 9 z else 0))
          rw [if_neg hq]; omega
        · rw [if_neg q, if_neg q]
    · intro f s ⟨hs, hm⟩
      have hcs := kp s hs
      show Rt (k_X6_fillMatrix_130 t a (f + 1) p (nn v 2 : Int) s) _
      rw [k_X6_fillMatrix_130, lcN2 hcs]
      refine Rt_neg (by omega) ?_
      refine Rt_loop (fun f z s => k_X6_fillMatrix_211 t a f p z s) _ (nn v 3) (fun z s => ofr (fun k => k = a) nF μ0 s ∧ ∀ i j, i < 6 → j < 6 → s.1 a (ix i j) = lapn v (nn v 1) i j + (if i = j then tien v p (nn v 2) i + rund v p z i else 0)) ?_ ?_ FU 0 s (by omega) (FU_gt (by omega)) ⟨hs, fun i j hi hj => by
        rw [hm i j hi hj]
        have : tien v p (nn v 2) i + rund v p 0 i = tien v p (nn v 2) i := Int.add_zero _
        rw [this]⟩
      · intro f z s hz ⟨hs, hm⟩ hnext
        have hcs := kp s hs
        have h := hv.2.2.2.2.2.2.2.2.1 z hz
        obtain ⟨x, hx⟩ : ∃ x : Nat, v.1 10 z = x := ⟨(v.1 10 z).toNat, by omega⟩
        show Rt (k_X6_fillMatrix_211 t a (f + 1) p (z : Int) s) _
        rw [k_X6_fillMatrix_211, lcN3 hcs, show w32 (3 + (z : Int)) = ((z + 3 : Nat) : Int) by rw [w32i (by omega) (by omega)]; omega]
        refine Rt_pos (by omega) (Rt_if (fun hq => ?_) (fun hq => ?_))
        · unfold k_X6_fillMatrix_243
          refine Rt_neg (by decide) ?_
          rw [lcA10 hcs, hx, lcA12 hcs, w32_7r (i := x) (by omega)]
          have kx := ix_ok (i := x) (j := x) (by omega) (by omega)
          have lb := lapn_b hv (nn v 1) (Nat.le_refl _) x x
          have tb := tien_b hv p x (nn v 2) (Nat.le_refl _)
          have rb := rund_b hv p x z (by omega)
          have sv := hm x x (by omega) (by omega)
          rw [if_pos rfl] at sv
          refine Rt_ck (by omega) (Rt_ck kx (Rt_ck (by omega) (Rt_ck kx (Rt_lm (Rt_lt ?_)))))
          rw [w32s (by omega)]
          refine hnext _ ⟨hs.a (Eq.refl a), fun i j hi hj => ?_⟩
          rw [diag1 (s := s) (a := a) (e := v.1 12 z) (by omega) (w64i (by omega) (by omega)) i j hi hj, hm i j hi hj]
          by_cases q : i = j
          · rw [if_pos q, if_pos q, if_pos q]
            show _ = _ + (_ + (rund v p z i + (if bt p (z + 3) then nb (v.1 10 z) i * v.1 12 z else 0)))
            rw [if_pos hq, hx]; omega
          · rw [if_neg q, if_neg q, if_neg q]; omega
        · unfold k_X6_fillMatrix_243
          refine Rt_pos rfl (Rt_lt ?_)
          rw [w32s (by omega)]
          refine hnext _ ⟨hs, fun i j hi hj => ?_⟩
          rw [hm i j hi hj]
          by_cases q : i = j
          · rw [if_pos q, if_pos q]
            show _ = _ + (_ + (rund v p z i + (if bt p (z + 3) then nb (v.1 10 z) i * v.1 12 z else 0)))
            rw [if_neg hq]; omega
          · rw [if_neg q, if_neg q]
      · intro f s ⟨hs, hm⟩
        have hcs := kp s hs
        show Rt (k_X6_fillMatrix_211 t a (f + 1) p (nn v 3 : Int) s) _
        rw [k_X6_fillMatrix_211, lcN3 hcs]
        exact Rt_neg (by omega) (Rt_some ⟨hs, hm⟩)
