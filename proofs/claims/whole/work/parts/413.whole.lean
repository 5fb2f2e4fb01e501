/-! the determinant of the laid matrix, whole: two residues put together -/
def laid (μ : GM) (col : Int) : Nat → Nat → Int := fun i j => if (j : Int) = col then μ.1 75 (i : Int) else μ.1 74 (ix i j)
theorem laid_keep {μ ν : GM} (h : ofr P76 nF μ ν) (col : Int) : laid ν col = laid μ col := by
  funext i j
  unfold laid
  rw [h.1 75 (by unfold P76; omega), h.1 74 (by unfold P76; omega)]
theorem res_of {q : Nat} (hq0 : 1 < (q : Int)) (hq2 : q ≤ 2147483647) {x : Int} : (x.tmod q < 0 → 0 ≤ x.tmod q + q ∧ x.tmod q + q < q ∧ cg q (x.tmod q + q) x) ∧ (¬ x.tmod q < 0 → 0 ≤ x.tmod q ∧ x.tmod q < q ∧ cg q (x.tmod q) x) := by
  have a : -(q : Int) < x.tmod q ∧ x.tmod q < q := by
    have h1 := Int.natAbs_tmod x q
    have h2 := Nat.mod_lt x.natAbs (show 0 < ((q : Int)).natAbs by omega)
    omega
  have c : cg q (x.tmod q) x := ⟨-(x.tdiv q), by rw [Int.tmod_def]; grind⟩
  refine ⟨fun h => ⟨by omega, by omega, ?_⟩, fun h => ⟨by omega, a.2, c⟩⟩
  obtain ⟨w, hw⟩ := c
  exact ⟨w + 1, by grind⟩
theorem det_spec {q n : Nat} (hq : prm q) (hq2 : q ≤ 2147483647) (hn6 : n ≤ 6) {μ0 : GM} (hn : μ0.2 53 1 = n) (col : Int) (μ : GM) (hμ : ofr P76 nF μ0 μ) :
    Rt (f_X12_determinant col q μ) (DQ q (dt n (laid μ0 col)) μ0) := by
  have hq0 : 1 < (q : Int) := by have := hq.1; omega
  have cells : ∀ s, ofr P76 nF μ0 s → s.2 53 1 = n := fun s h => (h.2 53 1 (fun z => z)).trans hn
  unfold f_X12_determinant
  refine Rt_loop (fun f z s => k_X12_determinant_3 f col q z s) _ n (fun z s => ofr P76 nF μ0 s ∧ ∀ i j, i < z → j < n → 0 ≤ s.1 76 (ix i j) ∧ s.1 76 (ix i j) < q ∧ cg q (s.1 76 (ix i j)) (laid μ0 col i j)) ?_ ?_ FU 0 μ (by omega) (FU_gt (by omega)) ⟨hμ, fun i j h => by omega⟩
  · intro f z s hz ⟨hs, hv⟩ hnext
    show Rt (k_X12_determinant_3 (f + 1) col q (z : Int) s) _
    rw [k_X12_determinant_3]
    refine Rt_pos (by rw [cells s hs]; omega) ?_
    refine Rt_loop (fun f' z' s' => k_X12_determinant_15 (k_X12_determinant_3 f) f' col q (z : Int) z' s') _ n (fun b s' => ofr P76 nF μ0 s' ∧ ∀ i j, (i < z ∨ i = z ∧ j < b) → j < n → 0 ≤ s'.1 76 (ix i j) ∧ s'.1 76 (ix i j) < q ∧ cg q (s'.1 76 (ix i j)) (laid μ0 col i j)) ?_ ?_ FU 0 s (by omega) (FU_gt (by omega)) ⟨hs, fun i j h hj => hv i j (by omega) hj⟩
    · intro f2 b s' hb ⟨hs', hv'⟩ hnext2
      show Rt (k_X12_determinant_15 (k_X12_determinant_3 f) (f2 + 1) col q (z : Int) (b : Int) s') _
      rw [k_X12_determinant_15]
      refine Rt_pos (by rw [cells s' hs']; omega) ?_
      have main : ∀ x, x = laid μ0 col z b → Rt (k_X12_determinant_53 (k_X12_determinant_3 f) (k_X12_determinant_15 (k_X12_determinant_3 f) f2) col q (z : Int) (b : Int) x s') (DQ q (dt n (laid μ0 col)) μ0) := by
        intro x hx
        unfold k_X12_determinant_53
        have rs := res_of hq0 hq2 (x := x)
        have fin : ∀ v : Int, 0 ≤ v ∧ v < q ∧ cg q v x → Rt (k_X12_determinant_15 (k_X12_determinant_3 f) f2 col q (z : Int) ((b + 1 : Nat) : Int) (gA s' 76 (ix z b) v)) (DQ q (dt n (laid μ0 col)) μ0) := fun v hv2 => hnext2 _ ⟨hs'.a (Eq.refl 76), fun i j h hj => by
          rw [gA_at]
          by_cases e : ix i j = ix z b
          · obtain ⟨e1, e2⟩ := ix_inj (by omega) (by omega) e
            rw [if_pos e, e1, e2, ← hx]; exact hv2
          · rw [if_neg e]
            refine hv' i j ?_ hj
            rcases h with h | h
            · exact Or.inl h
            · refine Or.inr ⟨h.1, ?_⟩
              by_cases e2 : j = b
              · exact absurd (by rw [h.1, e2]) e
              · omega⟩
        refine Rt_ck (by omega) (Rt_lt (Rt_if (fun h => ?_) (fun h => ?_)))
        · have r := rs.1 h
          rw [w32_6 (i := z) (j := b) (by omega) (by omega)]
          refine Rt_ck (ix_ok (by omega) (by omega)) (Rt_lm (Rt_lt ?_))
          rw [w32s (by omega), w64i (by omega) (by omega)]
          exact fin _ r
        · have r := rs.2 h
          rw [w32_6 (i := z) (j := b) (by omega) (by omega)]
          refine Rt_ck (ix_ok (by omega) (by omega)) (Rt_lm (Rt_lt ?_))
          rw [w32s (by omega)]
          exact fin _ r
      refine Rt_if (fun h => Rt_ck (by omega) ?_) (fun h => ?_)
      · refine main _ ?_
        unfold laid
        rw [if_pos h, hs'.1 75 (by unfold P76; omega)]
      · rw [w32_6 (i := z) (j := b) (by omega) (by omega)]
        refine Rt_ck (ix_ok (by omega) (by omega)) (main _ ?_)
        unfold laid
        rw [if_neg h, hs'.1 74 (by unfold P76; omega)]
    · intro f2 s' ⟨hs', hv'⟩
      show Rt (k_X12_determinant_15 (k_X12_determinant_3 f) (f2 + 1) col q (z : Int) (n : Int) s') _
      rw [k_X12_determinant_15]
      refine Rt_neg (by rw [cells s' hs']; omega) (Rt_lt ?_)
      rw [w32s (by omega)]
      exact hnext s' ⟨hs', fun i j h hj => hv' i j (by omega) hj⟩
  · intro f s ⟨hs, hv⟩
    show Rt (k_X12_determinant_3 (f + 1) col q (n : Int) s) _
    rw [k_X12_determinant_3]
    refine Rt_neg (by rw [cells s hs]; omega) ?_
    refine det_main hq hq2 hn6 hn s ⟨hs, fun i j hi hj => ⟨(hv i j hi hj).1, (hv i j hi hj).2.1⟩⟩ ?_
    refine dt_cg q n _ _ (fun i j hi hj => ?_)
    have := (hv i j hi hj).2.2
    show cg q (s.1 76 (ix (0 + i) (0 + j))) _
    rw [Nat.zero_add, Nat.zero_add]
    exact this
/-- two residues make the number, if it is small enough -/
theorem crt {x y k v D : Int} (hx0 : 0 ≤ x) (hx1 : x < 2147483647) (hxc : cg 2147483647 x D) (hyc : cg 2147483629 y D) (hk0 : 0 ≤ k) (hk1 : k < 2147483629) (hkc : cg 2147483629 (2147483647 * k) (y - x)) (hv : v = x + 2147483647 * k) (hD1 : -2305842987738857481 ≤ D) (hD2 : D ≤ 2305842987738857481) : (2305842987738857481 < v → v - 4611685975477714963 = D) ∧ (¬ 2305842987738857481 < v → v = D) := by
  obtain ⟨a, ha⟩ := hxc
  obtain ⟨b, hb⟩ := hyc
  obtain ⟨c, hc⟩ := hkc
  subst hv
  -- x + 2147483647 k = D + 2147483647 (a + k) and = D + 2147483629 (b + c)
  have e1 : x + 2147483647 * k = D + 2147483647 * (a + k) := by omega
  have e2 : x + 2147483647 * k = D + 2147483629 * (b + c) := by omega
  -- 18 (a + k) is a multiple of 2147483629, whose inverse of 18 is 1192 ..
  obtain ⟨t, ht⟩ : ∃ t, a + k = 2147483629 * t := by
    have e3 : 18 * (a + k) = 2147483629 * (b + c - a - k) := by omega
    have e4 : (18 : Int) ∣ (b + c - a - k) := by
      have : (18 : Int) ∣ 2147483629 * (b + c - a - k) := ⟨a + k, e3.symm⟩
      omega
    obtain ⟨t, ht⟩ := e4
    exact ⟨t, by omega⟩
  omega
theorem whole_spec {n : Nat} (hn6 : n ≤ 6) {μ0 : GM} (hn : μ0.2 53 1 = n) (col : Int) (μ : GM) (hμ : ofr P76 nF μ0 μ) (hD1 : -2305842987738857481 ≤ dt n (laid μ0 col)) (hD2 : dt n (laid μ0 col) ≤ 2305842987738857481) :
    Rt (f_X12_whole col μ) (fun r μ' => ofr P76 nF μ0 μ' ∧ r = dt n (laid μ0 col)) := by
  unfold f_X12_whole
  refine Rt_bd (det_spec (q := 2147483647) prm_one (by omega) hn6 hn col μ hμ) (fun x1 μ2 h1 => ?_)
  refine Rt_bd (det_spec (q := 2147483629) prm_two (by omega) hn6 hn col μ2 h1.1) (fun x3 μ4 h3 => ?_)
  obtain ⟨hf1, x10, x11, x1c⟩ := h1
  obtain ⟨hf3, x30, x31, x3c⟩ := h3
  refine Rt_ck (by decide) (Rt_ck (by decide) ?_)
  have hi := inv_spec (q := 2147483629) prm_two (by omega) μ4 (x := 18) (by omega) (by omega)
  rw [show w64 (((2147483629 : Nat) : Int) - 2) = 2147483627 from w64i (by omega) (by omega)] at hi
  refine Rt_bd hi (fun x5 μ6 h5 => ?_)
  obtain ⟨rfl, x50, x51, x5c⟩ := h5
  refine Rt_ck (by decide) (Rt_lt (Rt_lt ?_))
  have x11' : x1 < 2147483647 := x11
  have x31' : x3 < 2147483629 := x31
  have x51' : x5 < 2147483629 := x51
  have g1 : w64 (x3 - x1) = x3 - x1 := w64i (by omega) (by omega)
  have rs := res_of (q := 2147483629) (by omega) (by omega) (x := x3 - x1)
  have g2 : -2147483629 < Int.tmod (x3 - x1) 2147483629 ∧ Int.tmod (x3 - x1) 2147483629 < 2147483629 := by
    have h1 := Int.natAbs_tmod (x3 - x1) 2147483629
    have h2 := Nat.mod_lt (x3 - x1).natAbs (show 0 < (2147483629 : Int).natAbs by omega)
    omega
  obtain ⟨y, hy⟩ : ∃ y, y = Int.tmod (w64 (Int.tmod (w64 (x3 - x1)) 2147483629 + 2147483629)) 2147483629 := ⟨_, rfl⟩
  rw [← hy]
  rw [g1, w64i (by omega) (by omega), tmod_pos (by omega)] at hy
  have y0 : 0 ≤ y := hy ▸ Int.emod_nonneg _ (by omega)
  have y1 : y < 2147483629 := hy ▸ Int.emod_lt_of_pos _ (by omega)
  have yc : cg 2147483629 y (x3 - x1) := by
    rw [hy]
    refine cg_trans (cg_emod _ _) ?_
    exact ⟨1 - (x3 - x1).tdiv 2147483629, by rw [Int.tmod_def]; grind⟩
  have pr := sq_lt y0 y1 x50 x51' (by omega)
  rw [w64i (x := y * x5) (by omega) (by omega), tmod_pos pr.1]
  have k0 := Int.emod_nonneg (y * x5) (show (2147483629 : Int) ≠ 0 by omega)
  have k1 := Int.emod_lt_of_pos (y * x5) (show (0 : Int) < 2147483629 by omega)
  have kc : cg 2147483629 (2147483647 * (y * x5 % 2147483629)) (x3 - x1) := by
    refine cg_trans (cg_mul (cg_refl _ _) (cg_emod _ _)) (cg_trans ?_ yc)
    obtain ⟨w, hw⟩ := x5c
    have hw2 : 18 * x5 = 1 + 2147483629 * w := hw
    exact ⟨y * x5 + y * w, by grind⟩
  obtain ⟨k, hk⟩ : ∃ k, k = y * x5 % 2147483629 := ⟨_, rfl⟩
  rw [← hk] at k0 k1 kc ⊢
  rw [w64i (x := 2147483647 * k) (by omega) (by omega), w64i (x := x1 + 2147483647 * k) (by omega) (by omega)]
  have fin := crt x10 x11' x1c x3c k0 k1 kc rfl hD1 hD2
  refine Rt_if (fun h => ?_) (fun h => ?_)
  · rw [w64i (by omega) (by omega)]
    exact Rt_some ⟨hf3, fin.1 h⟩
  · exact Rt_some ⟨hf3, fin.2 h⟩
