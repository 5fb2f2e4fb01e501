/-! the determinant by elimination modulo a prime -/
def P76 : Nat → Prop := fun k => k = 76
def sub76 (μ : GM) (k : Nat) : Nat → Nat → Int := fun i j => μ.1 76 (ix (k + i) (k + j))
/-- the state of the elimination: all entries are residues -/
def DI (q n : Nat) (μ0 μ : GM) : Prop := ofr P76 nF μ0 μ ∧ ∀ i j, i < n → j < n → 0 ≤ μ.1 76 (ix i j) ∧ μ.1 76 (ix i j) < q
theorem DI.cells {q n : Nat} {μ0 μ : GM} (h : DI q n μ0 μ) (hn : μ0.2 53 1 = n) : μ.2 53 1 = n := (h.1.2 53 1 (fun z => z)).trans hn
theorem DI.set {q n : Nat} {μ0 μ : GM} (h : DI q n μ0 μ) {a b : Nat} {v : Int} (hv0 : 0 ≤ v) (hv : v < q) : DI q n μ0 (gA μ 76 (ix a b) v) := by
  refine ⟨h.1.a (Eq.refl 76), fun i j hi hj => ?_⟩
  rw [gA_at]
  by_cases e : ix i j = ix a b
  · rw [if_pos e]; exact ⟨hv0, hv⟩
  · rw [if_neg e]; exact h.2 i j hi hj
def DQ (q : Nat) (det : Int) (μ0 : GM) : Int → GM → Prop := fun r μ => ofr P76 nF μ0 μ ∧ 0 ≤ r ∧ r < q ∧ cg q r det
theorem det_rows {q n : Nat} (hq : prm q) (hq2 : q ≤ 2147483647) (hn6 : n ≤ 6) {μ0 : GM} (hn : μ0.2 53 1 = n) {det d : Int} (k : Nat) (hk : k < n) {bb : Int} (hb0 : 0 ≤ bb) (hb : bb < q) (kL : Int → Int → Int → GM → Option (Int × GM))
    (hL : ∀ μ, DI q n μ0 μ → cg q (d * dt (n - k - 1) (sub76 μ (k + 1))) det → Rt (kL q d ((k + 1 : Nat) : Int) μ) (DQ q det μ0))
    (m0 d0 : Int) (hm : cg q (m0 * bb) 1) (hd0 : cg q (d0 * m0) d)
    (μ : GM) (hμ : DI q n μ0 μ) (hpv : μ.1 76 (ix k k) = m0) (hdt : cg q (d0 * dt (n - k) (sub76 μ k)) det) :
    Rt (k_X12_determinant_300 kL FU q d (k : Int) bb ((k + 1 : Nat) : Int) μ) (DQ q det μ0) := by
  have hq0 : 0 < (q : Int) := by have := hq.1; omega
  refine Rt_loop (fun f z s => k_X12_determinant_300 kL f q d (k : Int) bb z s) _ n (fun z s => k < z ∧ DI q n μ0 s ∧ s.1 76 (ix k k) = m0 ∧ cg q (d0 * dt (n - k) (sub76 s k)) det ∧ ∀ i, k < i → i < z → s.1 76 (ix i k) = 0) ?_ ?_ FU (k + 1) μ (by omega) (FU_gt (by omega)) ⟨by omega, hμ, hpv, hdt, fun i h1 h2 => by omega⟩
  · intro f z s hz ⟨hkz, hs, hspv, hsdt, hsz⟩ hnext
    show Rt (k_X12_determinant_300 kL (f + 1) q d (k : Int) bb (z : Int) s) _
    rw [k_X12_determinant_300]
    refine Rt_pos (by rw [hs.cells hn]; omega) ?_
    rw [w32_6 (i := z) (j := k) (by omega) (by omega)]
    refine Rt_ck (ix_ok (by omega) (by omega)) (Rt_ck (by omega) (Rt_lt ?_))
    have r1 := hs.2 z k hz hk
    have pr := sq_lt r1.1 r1.2 hb0 hb (by omega)
    rw [w64i (by omega) (by omega), tmod_pos pr.1]
    obtain ⟨x2, hx2⟩ : ∃ x, x = s.1 76 (ix z k) * bb % q := ⟨_, rfl⟩
    rw [← hx2]
    have x20 : 0 ≤ x2 := hx2 ▸ Int.emod_nonneg _ (by omega)
    have x2l : x2 < q := hx2 ▸ Int.emod_lt_of_pos _ hq0
    have x2c : cg q x2 (s.1 76 (ix z k) * bb) := hx2 ▸ cg_emod _ _
    refine Rt_loop (fun f' z' s' => k_X12_determinant_333 kL (k_X12_determinant_300 kL f) f' q d (k : Int) bb (z : Int) x2 z' s') _ n (fun j s' => k ≤ j ∧ DI q n μ0 s' ∧ ∀ a b, a < n → b < n → s'.1 76 (ix a b) = if a = z ∧ k ≤ b ∧ b < j then (s.1 76 (ix z b) + (q - x2) * s.1 76 (ix k b)) % q else s.1 76 (ix a b)) ?_ ?_ FU k s (by omega) (FU_gt (by omega)) ⟨Nat.le_refl k, hs, fun a b _ _ => by rw [if_neg (by omega)]⟩
    · intro f2 j s' hj ⟨hkj, hs', hv⟩ hnext2
      show Rt (k_X12_determinant_333 kL (k_X12_determinant_300 kL f) (f2 + 1) q d (k : Int) bb (z : Int) x2 (j : Int) s') _
      rw [k_X12_determinant_333]
      refine Rt_pos (by rw [hs'.cells hn]; omega) ?_
      rw [w32_6 (i := z) (j := j) (by omega) (by omega), w32_6 (i := k) (j := j) (by omega) (by omega)]
      refine Rt_ck (ix_ok (by omega) (by omega)) (Rt_ck (ix_ok (by omega) (by omega)) (Rt_ck (by omega) (Rt_ck (ix_ok (by omega) (by omega)) (Rt_lm (Rt_lt ?_)))))
      have v1 : s'.1 76 (ix z j) = s.1 76 (ix z j) := by rw [hv z j hz hj, if_neg (by omega)]
      have v2 : s'.1 76 (ix k j) = s.1 76 (ix k j) := by rw [hv k j hk hj, if_neg (by omega)]
      have r2 := hs.2 z j hz hj
      have r3 := hs.2 k j hk hj
      have p1 : w64 ((q : Int) - x2) = q - x2 := w64i (by omega) (by omega)
      have p2 : 0 ≤ ((q : Int) - x2) * s.1 76 (ix k j) ∧ ((q : Int) - x2) * s.1 76 (ix k j) ≤ 4611686014132420609 := by
        have a := Int.mul_nonneg (show 0 ≤ (q : Int) - x2 by omega) r3.1
        have b := mul_mono (show (q : Int) - x2 ≤ 2147483647 by omega) (show s.1 76 (ix k j) ≤ 2147483647 by omega) r3.1 (by omega)
        omega
      rw [v1, v2, p1, w64i (x := ((q : Int) - x2) * s.1 76 (ix k j)) (by omega) (by omega), w64i (by omega) (by omega), tmod_pos (by omega), w32s (by omega)]
      refine hnext2 _ ⟨by omega, hs'.set (Int.emod_nonneg _ (by omega)) (Int.emod_lt_of_pos _ hq0), fun a b ha hb => ?_⟩
      rw [gA_at]
      by_cases e : ix a b = ix z j
      · obtain ⟨e1, e2⟩ := ix_inj (by omega) (by omega) e
        subst e1 e2
        rw [if_pos rfl, if_pos ⟨rfl, by omega, by omega⟩]
      · rw [if_neg e, hv a b ha hb]
        by_cases c : a = z ∧ k ≤ b ∧ b < j
        · rw [if_pos c, if_pos ⟨c.1, c.2.1, by omega⟩]
        · rw [if_neg c, if_neg (fun c2 => c ⟨c2.1, c2.2.1, by
            by_cases h : b = j
            · exact absurd (by rw [c2.1, h]) e
            · omega⟩)]
    · intro f2 s' ⟨hkj, hs', hv⟩
      show Rt (k_X12_determinant_333 kL (k_X12_determinant_300 kL f) (f2 + 1) q d (k : Int) bb (z : Int) x2 (n : Int) s') _
      rw [k_X12_determinant_333]
      refine Rt_neg (by rw [hs'.cells hn]; omega) (Rt_lt ?_)
      rw [w32s (by omega)]
      refine hnext s' ⟨by omega, hs', ?_, ?_, ?_⟩
      · rw [hv k k hk hk, if_neg (by omega)]; exact hspv
      · refine cg_trans (cg_mul (cg_refl _ d0) ?_) hsdt
        rw [← dt_rowop (n - k) (z - k) 0 (-x2) (sub76 s k) (fun a b => if a = z - k then sub76 s k a b + -x2 * sub76 s k 0 b else sub76 s k a b) (by omega) (by omega) (by omega) (fun i c hi => if_neg hi) (fun c => by show (if _ then _ else _) = _; rw [if_pos rfl])]
        refine dt_cg q (n - k) _ _ (fun a b ha hb => ?_)
        show cg q (s'.1 76 (ix (k + a) (k + b))) (if a = z - k then sub76 s k a b + -x2 * sub76 s k 0 b else sub76 s k a b)
        rw [hv (k + a) (k + b) (by omega) (by omega)]
        by_cases e : a = z - k
        · rw [if_pos ⟨by omega, by omega, by omega⟩, if_pos e]
          refine cg_trans (cg_emod _ _) ?_
          show cg q _ (s.1 76 (ix (k + a) (k + b)) + -x2 * s.1 76 (ix (k + 0) (k + b)))
          rw [show k + a = z by omega, Nat.add_zero]
          exact ⟨s.1 76 (ix k (k + b)), by grind⟩
        · rw [if_neg (by omega), if_neg e]
          exact cg_refl _ _
      · intro i h1 h2
        by_cases e : i = z
        · subst e
          rw [hv i k hz hk, if_pos ⟨rfl, Nat.le_refl k, hk⟩]
          refine cg_eq (p := q) ?_ (Int.emod_nonneg _ (by omega)) (Int.emod_lt_of_pos _ hq0) (by omega) hq0
          refine cg_trans (cg_emod _ _) ?_
          rw [hspv]
          have c1 : cg q (s.1 76 (ix i k) + (q - x2) * m0) (s.1 76 (ix i k) + -(s.1 76 (ix i k) * bb) * m0) := by
            refine cg_add (cg_refl _ _) (cg_mul ?_ (cg_refl _ _))
            refine cg_trans ⟨1, ?_⟩ (cg_neg x2c)
            omega
          refine cg_trans c1 ?_
          obtain ⟨w, hw⟩ := hm
          exact ⟨-(s.1 76 (ix i k) * w), by grind⟩
        · rw [hv i k (by omega) hk, if_neg (by omega)]
          exact hsz i h1 (by omega)
  · intro f s ⟨hkz, hs, hspv, hsdt, hsz⟩
    show Rt (k_X12_determinant_300 kL (f + 1) q d (k : Int) bb (n : Int) s) _
    rw [k_X12_determinant_300]
    refine Rt_neg (by rw [hs.cells hn]; omega) (Rt_lt ?_)
    rw [w32s (by omega)]
    refine hL s hs ?_
    have e : dt (n - k) (sub76 s k) = m0 * dt (n - k - 1) (sub76 s (k + 1)) := by
      have e1 := dt_first (n - k - 1) (sub76 s k) (fun i hi => by
        show s.1 76 (ix (k + (i + 1)) (k + 0)) = 0
        rw [Nat.add_zero]
        exact hsz _ (by omega) (by omega))
      rw [show n - k - 1 + 1 = n - k by omega] at e1
      rw [e1]
      have e2 : sub76 s k 0 0 = m0 := hspv
      rw [e2]
      congr 1
      refine dt_congr _ _ _ (fun r c _ _ => ?_)
      show s.1 76 (ix (k + skip 0 r) (k + (c + 1))) = s.1 76 (ix (k + 1 + r) (k + 1 + c))
      rw [show skip 0 r = r + 1 by unfold skip; rw [if_neg (by omega)], show k + (r + 1) = k + 1 + r by omega, show k + (c + 1) = k + 1 + c by omega]
    rw [e] at hsdt
    refine cg_trans ?_ hsdt
    rw [← Int.mul_assoc]
    exact cg_mul (cg_symm hd0) (cg_refl _ _)
theorem det_pivot {q n : Nat} (hq : prm q) (hq2 : q ≤ 2147483647) (hn6 : n ≤ 6) {μ0 : GM} (hn : μ0.2 53 1 = n) {det d0 : Int} (h00 : 0 ≤ d0) (h01 : d0 < q) (k : Nat) (hk : k < n) (kL : Int → Int → Int → GM → Option (Int × GM))
    (hL : ∀ (μ : GM) (d : Int), 0 ≤ d → d < q → DI q n μ0 μ → cg q (d * dt (n - k - 1) (sub76 μ (k + 1))) det → Rt (kL q d ((k + 1 : Nat) : Int) μ) (DQ q det μ0))
    (μ : GM) (hμ : DI q n μ0 μ) (hpv : μ.1 76 (ix k k) ≠ 0) (hdt : cg q (d0 * dt (n - k) (sub76 μ k)) det) :
    Rt (k_X12_determinant_250 kL q d0 (k : Int) μ) (DQ q det μ0) := by
  have hq0 : 0 < (q : Int) := by have := hq.1; omega
  unfold k_X12_determinant_250
  rw [w32_6 (i := k) (j := k) (by omega) (by omega)]
  refine Rt_ck (ix_ok (by omega) (by omega)) (Rt_ck (by omega) (Rt_lt (Rt_ck (ix_ok (by omega) (by omega)) ?_)))
  have r := hμ.2 k k hk hk
  refine Rt_bd (inv_spec hq hq2 μ (x := μ.1 76 (ix k k)) (by omega) r.2) (fun bb μ' h => Rt_lt ?_)
  obtain ⟨rfl, hb0, hb1, hbi⟩ := h
  have pr := sq_lt h00 h01 r.1 r.2 (by omega)
  rw [w32s (by omega), w64i (by omega) (by omega), tmod_pos pr.1]
  have c1 := Int.emod_nonneg (d0 * μ'.1 76 (ix k k)) (show (q : Int) ≠ 0 by omega)
  have c2 := Int.emod_lt_of_pos (d0 * μ'.1 76 (ix k k)) hq0
  exact det_rows hq hq2 hn6 hn k hk hb0 hb1 kL (fun μ h1 h2 => hL μ _ c1 c2 h1 h2) (μ'.1 76 (ix k k)) d0 hbi (cg_symm (cg_emod _ _)) μ' hμ rfl hdt
theorem det_swap {q n : Nat} (hq : prm q) (hq2 : q ≤ 2147483647) (hn6 : n ≤ 6) {μ0 : GM} (hn : μ0.2 53 1 = n) {det d0 : Int} (h00 : 0 ≤ d0) (h01 : d0 < q) (k : Nat) (hk : k < n) (kL : Int → Int → Int → GM → Option (Int × GM))
    (hL : ∀ (μ : GM) (d : Int), 0 ≤ d → d < q → DI q n μ0 μ → cg q (d * dt (n - k - 1) (sub76 μ (k + 1))) det → Rt (kL q d ((k + 1 : Nat) : Int) μ) (DQ q det μ0))
    (μ : GM) (hμ : DI q n μ0 μ) (w : Nat) (hw : w < n) (hkw : k < w) (hpv : μ.1 76 (ix w k) ≠ 0) (hdt : cg q (d0 * dt (n - k) (sub76 μ k)) det) :
    Rt (k_X12_determinant_171 kL FU q d0 (k : Int) (w : Int) ((0 : Nat) : Int) μ) (DQ q det μ0) := by
  have hq0 : 0 < (q : Int) := by have := hq.1; omega
  refine Rt_loop (fun f z s => k_X12_determinant_171 kL f q d0 (k : Int) (w : Int) z s) _ n (fun z s => DI q n μ0 s ∧ ∀ a b, a < n → b < n → s.1 76 (ix a b) = if b < z ∧ a = k then μ.1 76 (ix w b) else if b < z ∧ a = w then μ.1 76 (ix k b) else μ.1 76 (ix a b)) ?_ ?_ FU 0 μ (by omega) (FU_gt (by omega)) ⟨hμ, fun a b _ _ => by rw [if_neg (by omega), if_neg (by omega)]⟩
  · intro f z s hz ⟨hs, hv⟩ hnext
    show Rt (k_X12_determinant_171 kL (f + 1) q d0 (k : Int) (w : Int) (z : Int) s) _
    rw [k_X12_determinant_171]
    refine Rt_pos (by rw [hs.cells hn]; omega) ?_
    rw [w32_6 (i := k) (j := z) (by omega) (by omega), w32_6 (i := w) (j := z) (by omega) (by omega)]
    refine Rt_ck (ix_ok (by omega) (by omega)) (Rt_lt (Rt_ck (ix_ok (by omega) (by omega)) (Rt_ck (ix_ok (by omega) (by omega)) (Rt_lm (Rt_ck (ix_ok (by omega) (by omega)) (Rt_lm (Rt_lt ?_)))))))
    rw [w32s (by omega)]
    have v1 : s.1 76 (ix k z) = μ.1 76 (ix k z) := by rw [hv k z hk hz, if_neg (by omega), if_neg (by omega)]
    have v2 : s.1 76 (ix w z) = μ.1 76 (ix w z) := by rw [hv w z hw hz, if_neg (by omega), if_neg (by omega)]
    have r1 := hμ.2 k z hk hz
    have r2 := hμ.2 w z hw hz
    rw [v1, v2]
    refine hnext _ ⟨(hs.set r2.1 r2.2).set r1.1 r1.2, fun a b ha hb => ?_⟩
    rw [gA_at, gA_at]
    by_cases e : ix a b = ix w z
    · obtain ⟨e1, e2⟩ := ix_inj (by omega) (by omega) e
      subst e1 e2
      rw [if_pos rfl, if_neg (by omega), if_pos ⟨by omega, rfl⟩]
    · rw [if_neg e]
      by_cases e2 : ix a b = ix k z
      · obtain ⟨e3, e4⟩ := ix_inj (by omega) (by omega) e2
        subst e3 e4
        rw [if_pos rfl, if_pos ⟨by omega, rfl⟩]
      · rw [if_neg e2, hv a b ha hb]
        have hb1 : a = k → b ≠ z := fun h1 h2 => e2 (by rw [h1, h2])
        have hb2 : a = w → b ≠ z := fun h1 h2 => e (by rw [h1, h2])
        by_cases c1 : b < z ∧ a = k
        · rw [if_pos c1, if_pos ⟨by omega, c1.2⟩]
        · have c3 : ¬ (b < z + 1 ∧ a = k) := fun c => c1 ⟨by have := hb1 c.2; omega, c.2⟩
          rw [if_neg c1, if_neg c3]
          by_cases c2 : b < z ∧ a = w
          · rw [if_pos c2, if_pos ⟨by omega, c2.2⟩]
          · have c4 : ¬ (b < z + 1 ∧ a = w) := fun c => c2 ⟨by have := hb2 c.2; omega, c.2⟩
            rw [if_neg c2, if_neg c4]
  · intro f s ⟨hs, hv⟩
    show Rt (k_X12_determinant_171 kL (f + 1) q d0 (k : Int) (w : Int) (n : Int) s) _
    rw [k_X12_determinant_171]
    refine Rt_neg (by rw [hs.cells hn]; omega) (Rt_ck (by omega) (Rt_lt ?_))
    rw [w64i (by omega) (by omega), tmod_pos (by omega)]
    refine det_pivot hq hq2 hn6 hn (Int.emod_nonneg _ (by omega)) (Int.emod_lt_of_pos _ hq0) k hk kL hL s hs ?_ ?_
    · rw [hv k k hk hk, if_pos ⟨hk, rfl⟩]; exact hpv
    · have e2 : dt (n - k) (sub76 s k) = -dt (n - k) (sub76 μ k) := by
        rw [dt_congr (n - k) (sub76 s k) (fun a b => if a = 0 then sub76 μ k (w - k) b else if a = w - k then sub76 μ k 0 b else sub76 μ k a b) (fun a b ha hb => by
          show s.1 76 (ix (k + a) (k + b)) = if a = 0 then μ.1 76 (ix (k + (w - k)) (k + b)) else if a = w - k then μ.1 76 (ix (k + 0) (k + b)) else μ.1 76 (ix (k + a) (k + b))
          rw [hv (k + a) (k + b) (by omega) (by omega), show k + (w - k) = w by omega, Nat.add_zero]
          by_cases c1 : a = 0
          · rw [if_pos c1, if_pos ⟨by omega, by omega⟩]
          · rw [if_neg c1, if_neg (by omega)]
            by_cases c2 : a = w - k
            · rw [if_pos c2, if_pos ⟨by omega, by omega⟩]
            · rw [if_neg c2, if_neg (by omega)])]
        exact dt_swap_any (n - k) 0 (w - k) (sub76 μ k) _ (by omega) (by omega) (by omega) (fun i c h1 h2 => by show (if _ then _ else if _ then _ else _) = _; rw [if_neg h1, if_neg h2]) (fun c => by show (if _ then _ else _) = _; rw [if_pos rfl]) (fun c => by show (if _ then _ else if _ then _ else _) = _; rw [if_neg (by omega), if_pos rfl])
      rw [e2]
      refine cg_trans (cg_mul (cg_emod _ _) (cg_refl _ _)) ?_
      refine cg_trans ?_ hdt
      exact ⟨-dt (n - k) (sub76 μ k), by grind⟩
theorem det_main {q n : Nat} (hq : prm q) (hq2 : q ≤ 2147483647) (hn6 : n ≤ 6) {μ0 : GM} (hn : μ0.2 53 1 = n) {det : Int} (μ : GM) (hμ : DI q n μ0 μ) (hdt : cg q (dt n (sub76 μ 0)) det) :
    Rt (k_X12_determinant_104 FU q 1 0 μ) (DQ q det μ0) := by
  have hq0 : 1 < (q : Int) := by have := hq.1; omega
  refine Rt_loop (fun f z (s : Int × GM) => k_X12_determinant_104 f q s.1 z s.2) _ n (fun z s => 0 ≤ s.1 ∧ s.1 < q ∧ DI q n μ0 s.2 ∧ cg q (s.1 * dt (n - z) (sub76 s.2 z)) det) ?_ ?_ FU 0 (1, μ) (by omega) (FU_gt (by omega)) ⟨show (0 : Int) ≤ 1 by decide, hq0, hμ, by rw [Int.one_mul]; exact hdt⟩
  · intro f k s hk ⟨h00, h01, hs, hdt⟩ hnext
    obtain ⟨d0, s⟩ := s
    show Rt (k_X12_determinant_104 (f + 1) q d0 (k : Int) s) _
    rw [k_X12_determinant_104]
    refine Rt_pos (by rw [hs.cells hn]; omega) ?_
    have hL : ∀ (μ : GM) (d : Int), 0 ≤ d → d < q → DI q n μ0 μ → cg q (d * dt (n - k - 1) (sub76 μ (k + 1))) det → Rt (k_X12_determinant_104 f q d ((k + 1 : Nat) : Int) μ) (DQ q det μ0) := fun μ d h1 h2 h3 h4 => hnext (d, μ) ⟨h1, h2, h3, by rw [show n - (k + 1) = n - k - 1 by omega]; exact h4⟩
    refine Rt_loop (fun f' z s' => k_X12_determinant_117 (k_X12_determinant_104 f) f' q d0 (k : Int) z s') _ n (fun z s' => k ≤ z ∧ s' = s ∧ ∀ i, k ≤ i → i < z → s.1 76 (ix i k) = 0) ?_ ?_ FU k s (by omega) (FU_gt (by omega)) ⟨Nat.le_refl k, rfl, fun i h1 h2 => by omega⟩
    · intro f2 w s' hw ⟨hkw, e, hz⟩ hnext2
      subst e
      show Rt (k_X12_determinant_117 (k_X12_determinant_104 f) (f2 + 1) q d0 (k : Int) (w : Int) s') _
      rw [k_X12_determinant_117]
      refine Rt_pos (by rw [hs.cells hn]; omega) ?_
      rw [w32_6 (i := w) (j := k) (by omega) (by omega)]
      refine Rt_ck (ix_ok (by omega) (by omega)) (Rt_if (fun hz0 => Rt_lt ?_) (fun hnz => ?_))
      · rw [w32s (by omega)]
        refine hnext2 s' ⟨by omega, rfl, fun i h1 h2 => ?_⟩
        by_cases e : i = w
        · rw [e]; exact hz0
        · exact hz i h1 (by omega)
      · unfold k_X12_determinant_150
        refine Rt_neg (by rw [hs.cells hn]; omega) (Rt_if (fun e => ?_) (fun e => ?_))
        · have e2 : w = k := by omega
          subst e2
          exact det_pivot hq hq2 hn6 hn h00 h01 w hk _ hL s' hs hnz hdt
        · exact det_swap hq hq2 hn6 hn h00 h01 k hk _ hL s' hs w hw (by omega) hnz hdt
    · intro f2 s' ⟨hkw, e, hz⟩
      subst e
      show Rt (k_X12_determinant_117 (k_X12_determinant_104 f) (f2 + 1) q d0 (k : Int) (n : Int) s') _
      rw [k_X12_determinant_117]
      refine Rt_neg (by rw [hs.cells hn]; omega) ?_
      unfold k_X12_determinant_150
      refine Rt_pos (by rw [hs.cells hn]) (Rt_some ⟨hs.1, by omega, by omega, ?_⟩)
      have e : dt (n - k) (sub76 s' k) = 0 := dt_c0 (n - k) 0 _ (by omega) (fun i hi => hz (k + i) (by omega) (by omega))
      have hdt2 : cg q (d0 * dt (n - k) (sub76 s' k)) det := hdt
      rw [e, Int.mul_zero] at hdt2
      exact hdt2
  · intro f s ⟨h00, h01, hs, hdt⟩
    obtain ⟨d0, s⟩ := s
    show Rt (k_X12_determinant_104 (f + 1) q d0 (n : Int) s) _
    rw [k_X12_determinant_104]
    refine Rt_neg (by rw [hs.cells hn]; omega) (Rt_some ⟨hs.1, h00, h01, ?_⟩)
    have e : dt (n - n) (sub76 s n) = 1 := by rw [Nat.sub_self]; rfl
    have hdt2 : cg q (d0 * dt (n - n) (sub76 s n)) det := hdt
    rw [e, Int.mul_one] at hdt2
    exact hdt2
