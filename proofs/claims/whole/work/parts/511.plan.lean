/-! plans: levels, rates, what they are worth; the one side -/
def lvn (n w k : Nat) : Nat := k / 5 ^ (n - 1 - w) % 5
def rtn (v : LV) (k : Nat) : Int → Int := fun w => if 0 ≤ w ∧ w < v.2 4 then v.1 14 w * ((lvn (nn v 4) w.toNat k : Nat) : Int) / 4 else 0
theorem lvn_lt (n w k : Nat) : lvn n w k < 5 := Nat.mod_lt _ (by decide)
theorem cap_b {c : Int} (hc : 0 ≤ c ∧ c ≤ 99) {l : Nat} (hl : l < 5) : 0 ≤ c * (l : Int) ∧ c * (l : Int) ≤ 396 ∧ 0 ≤ c * (l : Int) / 4 ∧ c * (l : Int) / 4 ≤ c := by
  rcases (show l = 0 ∨ l = 1 ∨ l = 2 ∨ l = 3 ∨ l = 4 by omega) with y | y | y | y | y <;> subst y <;> omega
theorem rtn_at {v : LV} (hv : wfL v) {w : Nat} (k : Nat) (hw : w < nn v 4) : rtn v k w = v.1 14 w * ((lvn (nn v 4) w k : Nat) : Int) / 4 := by
  have n4 := nn_c hv 4 (by omega)
  unfold rtn
  rw [if_pos (by omega), show ((w : Int)).toNat = w by omega]
theorem rtn_b {v : LV} (hv : wfL v) (hx : wfX v) {w : Nat} (k : Nat) (hw : w < nn v 4) : 0 ≤ rtn v k w ∧ rtn v k w ≤ v.1 14 w ∧ v.1 14 w ≤ 99 := by
  have a := (hx.2.1 w hw).1
  have b := cap_b a (lvn_lt (nn v 4) w k)
  rw [rtn_at hv k hw]
  exact ⟨b.2.2.1, b.2.2.2, a.2⟩
theorem rtn_wf {v : LV} (hv : wfL v) (hx : wfX v) (k : Nat) : wfL (wrt v (rtn v k)) := wf_wrt hv (fun w hw => by have := rtn_b hv hx k hw; omega)
theorem rtn_wx {v : LV} (hv : wfL v) (hx : wfX v) (k : Nat) : wfX (wrt v (rtn v k)) := by
  have n4 := nn_c hv 4 (by omega)
  refine ⟨hx.1, fun w hw => ⟨(hx.2.1 w hw).1, (hx.2.1 w hw).2.1, (rtn_b hv hx k hw).2.1⟩, fun w hw => ?_⟩
  have hw : nn v 4 ≤ w := hw
  show rtn v k w = 0
  unfold rtn
  rw [if_neg (by omega)]
def gan (v : LV) (k : Nat) : Int := sumn (nn v 4) (fun w => rtn v k w * v.1 15 w)
def rsmm (v : LV) (k : Nat) : Int := sumn (nn v 4) (fun w => rtn v k w)
theorem gan_t {v : LV} (hv : wfL v) (hx : wfX v) {w : Nat} (k : Nat) (hw : w < nn v 4) : 0 ≤ rtn v k w * v.1 15 w ∧ rtn v k w * v.1 15 w ≤ 9801 := by
  have a := rtn_b hv hx k hw
  have b := (hx.2.1 w hw).2.1
  have m := mul_sm (a := rtn v k w) (b := v.1 15 w) (A := 99) (B := 99) (by omega) (by omega) (by omega) (by omega)
  exact ⟨Int.mul_nonneg a.1 b.1, by omega⟩
theorem gan_b {v : LV} (hv : wfL v) (hx : wfX v) {z : Nat} (k : Nat) (hz : z ≤ nn v 4) : 0 ≤ sumn z (fun w => rtn v k w * v.1 15 w) ∧ sumn z (fun w => rtn v k w * v.1 15 w) ≤ z * 9801 :=
  ⟨sumn_nn (fun i hi => (gan_t hv hx k (by omega)).1), sumn_ub (fun i hi => (gan_t hv hx k (by omega)).2)⟩
theorem rsm_b {v : LV} (hv : wfL v) (hx : wfX v) {z : Nat} (k : Nat) (hz : z ≤ nn v 4) : 0 ≤ sumn z (fun w => rtn v k w) ∧ sumn z (fun w => rtn v k w) ≤ z * 99 :=
  ⟨sumn_nn (fun i hi => (rtn_b hv hx k (by omega)).1), sumn_ub (fun i hi => by have := rtn_b hv hx k (w := i) (by omega); omega)⟩
def btr (b : Int × Int × Nat) (g s : Int) : Prop := b.1 = -10000009 ∨ b.1 < g ∨ (g = b.1 ∧ s < b.2.1)
noncomputable def bpl (v : LV) (lim sg : Int → Int) (N : Int) : Nat → Int × Int × Nat
  | 0 => (-10000009, 0, 0)
  | k + 1 => @ite _ (btr (bpl v lim sg N k) (gan v k) (rsmm v k) ∧ mayP v lim sg N (rtn v k)) (Classical.propDecidable _) (gan v k, rsmm v k, k) (bpl v lim sg N k)
theorem bpl_y {v : LV} {lim sg : Int → Int} {N : Int} {k : Nat} (h1 : btr (bpl v lim sg N k) (gan v k) (rsmm v k)) (h2 : mayP v lim sg N (rtn v k)) : bpl v lim sg N (k + 1) = (gan v k, rsmm v k, k) := by
  rw [bpl]; exact if_pos ⟨h1, h2⟩
theorem bpl_n {v : LV} {lim sg : Int → Int} {N : Int} {k : Nat} (h : ¬ (btr (bpl v lim sg N k) (gan v k) (rsmm v k) ∧ mayP v lim sg N (rtn v k))) : bpl v lim sg N (k + 1) = bpl v lim sg N k := by
  rw [bpl]; exact if_neg h
theorem bpl_lt (v : LV) (lim sg : Int → Int) (N : Int) : ∀ k, (bpl v lim sg N k).1 ≠ -10000009 → (bpl v lim sg N k).2.2 < k
  | 0, h => absurd rfl h
  | k + 1, h => by
    by_cases q : btr (bpl v lim sg N k) (gan v k) (rsmm v k) ∧ mayP v lim sg N (rtn v k)
    · rw [bpl_y q.1 q.2]; exact Nat.lt_succ_self k
    · rw [bpl_n q] at h ⊢
      have := bpl_lt v lim sg N k h
      omega
def P50 : Nat → Prop := fun k => k = 50 ∨ k = 51
theorem pow5 {n j : Nat} (h : j < n) (k : Nat) : k / 5 ^ (n - (j + 1)) / 5 = k / 5 ^ (n - j) := by
  rw [show n - j = n - (j + 1) + 1 by omega, Nat.pow_succ, Nat.div_div_eq_div_mul]
theorem setl {v : LV} (hv : wfL v) (hx : wfX v) {k : Nat} (hk : k < 125) {μ : GM} (e20 : μ.1 20 = v.1 14) : ∀ (j f : Nat) (s : GM), j ≤ nn v 4 → j < f → ofr P50 nF μ s → (∀ w : Nat, j ≤ w → w < nn v 4 → s.1 50 w = ((lvn (nn v 4) w k : Nat) : Int) ∧ s.1 51 w = rtn v k w) → Rt (k_X5_setLevels_15 f ((k / 5 ^ (nn v 4 - j) : Nat) : Int) ((j : Int) - 1) s) (fun _ s' => ofr P50 nF μ s' ∧ ∀ w : Nat, w < nn v 4 → s'.1 50 w = ((lvn (nn v 4) w k : Nat) : Int) ∧ s'.1 51 w = rtn v k w)
  | _, 0, s, h1, h2, o, e => by omega
  | 0, f + 1, s, h1, h2, o, e => by
    rw [k_X5_setLevels_15]
    exact Rt_pos (by omega) (Rt_some ⟨o, fun w hw => e w (by omega) hw⟩)
  | j + 1, f + 1, s, h1, h2, o, e => by
    have n4 := nn_c hv 4 (by omega)
    have w4 := hv.2.2.2.2.1
    have le : k / 5 ^ (nn v 4 - (j + 1)) ≤ k := Nat.div_le_self _ _
    have p5 := pow5 (n := nn v 4) (j := j) (by omega) k
    have cb := cap_b (hx.2.1 j (by omega)).1 (lvn_lt (nn v 4) j k)
    have ra := rtn_at hv k (w := j) (by omega)
    obtain ⟨X, hX⟩ : ∃ X : Nat, X = k / 5 ^ (nn v 4 - (j + 1)) := ⟨_, rfl⟩
    obtain ⟨Y, hY⟩ : ∃ Y : Nat, Y = k / 5 ^ (nn v 4 - j) := ⟨_, rfl⟩
    rw [← hX] at le p5 ⊢
    rw [← hY] at p5
    have el : Int.tmod (X : Int) 5 = ((lvn (nn v 4) j k : Nat) : Int) := by
      rw [tmod_pos (by omega)]
      unfold lvn
      rw [show nn v 4 - 1 - j = nn v 4 - (j + 1) by omega, ← hX]
      omega
    have ed : w32 (Int.tdiv (X : Int) 5) = (Y : Int) := by
      rw [tdiv_pos (by omega), w32i (by omega) (by omega), ← p5]
      omega
    rw [k_X5_setLevels_15, show ((j + 1 : Nat) : Int) - 1 = (j : Int) by omega, el, ed]
    refine Rt_neg (by omega) (Rt_ck (by decide) (Rt_ck (by omega) (Rt_lm (Rt_ck (by decide) (Rt_lt (Rt_ck (by omega) ?_))))))
    have er : f_X9_rateAt (j : Int) ((gA s 50 (j : Int) ((lvn (nn v 4) j k : Nat) : Int)).1 50 (j : Int)) (gA s 50 (j : Int) ((lvn (nn v 4) j k : Nat) : Int)) = some (rtn v k j, gA s 50 (j : Int) ((lvn (nn v 4) j k : Nat) : Int)) := by
      unfold f_X9_rateAt
      rw [ck_pos (by omega), ck_pos (by decide), gA_same, gA_nk _ _ _ (by decide), o.1 20 (by unfold P50; omega), e20, w32i (x := v.1 14 (j : Int) * ((lvn (nn v 4) j k : Nat) : Int)) (by omega) (by omega), tdiv_pos (by omega), w32i (by omega) (by omega), ra]
    refine Rt_bde er (Rt_ck (by omega) (Rt_lm (Rt_lt ?_)))
    rw [show (j : Int) + -1 = (j : Int) - 1 by omega, w32i (x := (j : Int) - 1) (by omega) (by omega)]
    rw [hY]
    refine setl hv hx hk e20 j f _ (by omega) (by omega) ((o.a (Or.inl rfl)).a (Or.inr rfl)) (fun w h3 h4 => ?_)
    rw [gA_nk _ _ _ (by decide), gA_at, gA_at, gA_nk _ _ _ (by decide)]
    by_cases q : (w : Int) = j
    · have : w = j := by omega
      subst this
      rw [if_pos rfl, if_pos rfl]; exact ⟨rfl, rfl⟩
    · rw [if_neg q, if_neg q]; exact e w (by omega) h4
theorem setLv {v : LV} (hv : wfL v) (hx : wfX v) {k : Nat} (hk : k < 125) {s : GM} (hc : cV 22 s = v) : Rt (f_X5_setLevels (k : Int) s) (fun _ s' => ofr P50 nF s s' ∧ ∀ w : Nat, w < nn v 4 → s'.1 50 w = ((lvn (nn v 4) w k : Nat) : Int) ∧ s'.1 51 w = rtn v k w) := by
  have n4 := nn_c hv 4 (by omega)
  have w4 := hv.2.2.2.2.1
  unfold f_X5_setLevels
  rw [lcN4 hc, ← n4]
  refine Rt_lt ?_
  rw [w32i (by omega) (by omega)]
  have := setl hv hx hk (lcA14 hc) (nn v 4) FU s (Nat.le_refl _) (FU_gt (by omega)) ofr.rfl (fun w h1 h2 => by omega)
  rw [Nat.sub_self, Nat.pow_zero, Nat.div_one] at this
  exact this
theorem gainC {v : LV} (hv : wfL v) (hx : wfX v) {k : Nat} {s : GM} (hc : cV 22 s = v) (e : ∀ w : Nat, w < nn v 4 → s.1 51 w = rtn v k w) : Rt (f_X5_gainOf s) (fun r t => r = gan v k ∧ t = s) := by
  have n4 := nn_c hv 4 (by omega)
  have w4 := hv.2.2.2.2.1
  unfold f_X5_gainOf
  refine Rt_loop (fun f z (a : Int) => k_X5_gainOf_4 f a z s) _ (nn v 4) (fun z a => a = sumn z (fun w => rtn v k w * v.1 15 w)) ?_ ?_ FU 0 0 (by omega) (FU_gt (by omega)) rfl
  · intro f z a hz ha hnext
    show Rt (k_X5_gainOf_4 (f + 1) a (z : Int) s) _
    have b := gan_b hv hx k (z := z) (by omega)
    have t := gan_t hv hx k hz
    rw [k_X5_gainOf_4, lcN4 hc]
    refine Rt_pos (by omega) (Rt_ck (by omega) (Rt_ck (by omega) (Rt_lt (Rt_lt ?_))))
    rw [e z hz, lcA15 hc, ha, w32i (x := rtn v k z * v.1 15 z) (by omega) (by omega), w32i (x := sumn z (fun w => rtn v k w * v.1 15 w) + rtn v k z * v.1 15 z) (by omega) (by omega), w32s (by omega)]
    exact hnext _ rfl
  · intro f a ha
    show Rt (k_X5_gainOf_4 (f + 1) a ((nn v 4 : Nat) : Int) s) _
    rw [k_X5_gainOf_4, lcN4 hc]
    exact Rt_neg (by omega) (Rt_some ⟨ha, rfl⟩)
theorem sumC {v : LV} (hv : wfL v) (hx : wfX v) {k : Nat} {s : GM} (hc : cV 22 s = v) (e : ∀ w : Nat, w < nn v 4 → s.1 51 w = rtn v k w) : Rt (f_X5_sumOfRates s) (fun r t => r = rsmm v k ∧ t = s) := by
  have n4 := nn_c hv 4 (by omega)
  have w4 := hv.2.2.2.2.1
  unfold f_X5_sumOfRates
  refine Rt_loop (fun f z (a : Int) => k_X5_sumOfRates_4 f a z s) _ (nn v 4) (fun z a => a = sumn z (fun w => rtn v k w)) ?_ ?_ FU 0 0 (by omega) (FU_gt (by omega)) rfl
  · intro f z a hz ha hnext
    show Rt (k_X5_sumOfRates_4 (f + 1) a (z : Int) s) _
    have b := rsm_b hv hx k (z := z) (by omega)
    have t := rtn_b hv hx k hz
    rw [k_X5_sumOfRates_4, lcN4 hc]
    refine Rt_pos (by omega) (Rt_ck (by omega) (Rt_lt (Rt_lt ?_)))
    rw [e z hz, ha, w32i (x := sumn z (fun w => rtn v k w) + rtn v k z) (by omega) (by omega), w32s (by omega)]
    exact hnext _ rfl
  · intro f a ha
    show Rt (k_X5_sumOfRates_4 (f + 1) a ((nn v 4 : Nat) : Int) s) _
    rw [k_X5_sumOfRates_4, lcN4 hc]
    exact Rt_neg (by omega) (Rt_some ⟨ha, rfl⟩)
theorem permit_c2 {v : LV} {μ : GM} (hv : wfL v) (hc : cV 22 μ = v) (hp2 : 0 ≤ μ.2 42 2 ∧ μ.2 42 2 ≤ 200) : Rt (f_X4_isPermit μ) (fun r s => r = (if 0 < μ.2 42 2 ∧ FV v (μ.1 43) (μ.2 42 2) = -10000009 then 1 else 0) ∧ ofr nP FPc μ s) := by
  unfold f_X4_isPermit
  refine Rt_if (fun q => ?_) (fun q => Rt_some ⟨by rw [if_neg (fun z => q z.1)]; rfl, ofr.rfl⟩)
  refine Rt_bd (P := fun r s => r = FV v (μ.1 43) (μ.2 42 2) ∧ ofr nP FPc μ s) ?_ (fun r s ⟨e, o⟩ => ?_)
  · unfold f_X4_firstFault
    exact Rt_neg (by omega) (Rt_lm (cfault hv hc (by omega) (μ.2 42 2).toNat FU 0 0 0 0 0 (gF μ 42 4 0) (FU_gt (by omega)) (by omega) (by omega) (by omega) (by omega) (ofr.rfl.f ⟨rfl, by omega⟩) ⟨gF_same _ _ _ _, Or.inl ⟨by omega, by omega, rfl⟩, by omega⟩))
  · rw [e]
    exact Rt_if (fun c => Rt_some ⟨by rw [if_pos ⟨q, c⟩]; rfl, o⟩) (fun c => Rt_some ⟨by rw [if_neg (fun z => c z.2)]; rfl, o⟩)
theorem five_m : ∀ z : Nat, z < 3 → w32 (((5 ^ z : Nat) : Int) * 5) = ((5 ^ (z + 1) : Nat) : Int) := by decide +kernel
theorem five_le : ∀ n : Nat, n < 4 → 5 ^ n ≤ 125 := by decide +kernel
theorem gCopy_o (μ : GM) : ofr (fun k => k = 49) nF μ (gCopy μ 50 0 49 0 3) := by
  refine ⟨fun k hk => ?_, fun _ _ _ => rfl⟩
  funext i
  exact if_neg (fun z => hk z.1)
theorem gCopy_at (μ : GM) {w : Nat} (hw : w < 3) : (gCopy μ 50 0 49 0 3).1 49 (w : Int) = μ.1 50 w := by
  show (if 49 = 49 ∧ 0 ≤ (w : Int) ∧ (w : Int) < 0 + 3 then μ.1 50 (0 + ((w : Int) - 0)) else μ.1 49 w) = _
  rw [if_pos (by omega), show 0 + ((w : Int) - 0) = (w : Int) by omega]
theorem cbest {v : LV} {N : Int} {sg lim : Int → Int} {μ : GM} (hv : wfL v) (hx : wfX v) (hN : 0 ≤ N ∧ N ≤ 200) (h : ClC v N sg lim μ) : Rt (f_X5_findBest μ) (fun r s => ScOK v μ s ∧ r = (bpl v lim sg N (5 ^ nn v 4)).1 ∧ (r ≠ -10000009 → ∀ w : Nat, w < nn v 4 → s.1 49 w = ((lvn (nn v 4) w (bpl v lim sg N (5 ^ nn v 4)).2.2 : Nat) : Int))) := by
  have n4 := nn_c hv 4 (by omega)
  have w4 := hv.2.2.2.2.1
  have f5 := five_le (nn v 4) (by omega)
  unfold f_X5_findBest
  refine Rt_bd (permit_c2 hv h.1 (by rw [h.2.2.2.1]; exact hN)) (fun a s0 ⟨ea, o0⟩ => ?_)
  rw [h.2.2.2.1, h.2.2.2.2.1] at ea
  have sc0 : ScOK v μ s0 := h.rf.o o0 (fun k hk => hk.elim) (fun k j hk => by unfold FPc at hk; unfold FSc; omega)
  have h0 := h.sc sc0
  refine Rt_loop (fun f z (b : Int) => k_X5_findBest_19 f a (-10000009) 0 b z s0) _ (nn v 4) (fun z b => b = ((5 ^ z : Nat) : Int)) ?_ ?_ FU 0 1 (by omega) (FU_gt (by omega)) rfl
  · intro f z b hz hb hnext
    show Rt (k_X5_findBest_19 (f + 1) a (-10000009) 0 b (z : Int) s0) _
    rw [k_X5_findBest_19, lcN4 h0.1]
    refine Rt_pos (by omega) (Rt_lt (Rt_lt ?_))
    rw [hb, five_m z (by omega), w32s (by omega)]
    exact hnext _ rfl
  intro f b hb
  show Rt (k_X5_findBest_19 (f + 1) a (-10000009) 0 b ((nn v 4 : Nat) : Int) s0) _
  rw [k_X5_findBest_19, lcN4 h0.1, hb]
  refine Rt_neg (by omega) ?_
  refine Rt_loop (σ := Int × Int × GM) (fun f z t => k_X5_findBest_49 f a t.1 t.2.1 ((5 ^ nn v 4 : Nat) : Int) z t.2.2) _ (5 ^ nn v 4) (fun z t => ScOK v μ t.2.2 ∧ t.1 = (bpl v lim sg N z).1 ∧ t.2.1 = (bpl v lim sg N z).2.1 ∧ (t.1 ≠ -10000009 → ∀ w : Nat, w < nn v 4 → t.2.2.1 49 w = ((lvn (nn v 4) w (bpl v lim sg N z).2.2 : Nat) : Int))) ?_ ?_ FU 0 (-10000009, 0, s0) (Nat.zero_le _) (FU_gt (by omega)) ⟨sc0, rfl, rfl, fun z => absurd rfl z⟩
  · intro f z ⟨b1, b2, s⟩ hz ⟨sc, e1, e2, e3⟩ hnext
    have sc : ScOK v μ s := sc
    have e1 : b1 = (bpl v lim sg N z).1 := e1
    have e2 : b2 = (bpl v lim sg N z).2.1 := e2
    show Rt (k_X5_findBest_49 (f + 1) a b1 b2 ((5 ^ nn v 4 : Nat) : Int) (z : Int) s) _
    have hs := h.sc sc
    rw [k_X5_findBest_49]
    refine Rt_pos (Int.ofNat_lt.mpr hz) (Rt_bd (setLv hv hx (k := z) (by omega) hs.1) (fun _ s1 ⟨o1, l1⟩ => ?_))
    have sc1 : ScOK v μ s1 := sc.o o1 (fun k hk => by unfold P50 at hk; unfold PSc; omega) (fun _ _ hk => hk.elim)
    have hs1 := h.sc sc1
    have r51 : ∀ w : Nat, w < nn v 4 → s1.1 51 w = rtn v z w := fun w hw => (l1 w hw).2
    have r49 : s1.1 49 = s.1 49 := o1.1 49 (by unfold P50; omega)
    refine Rt_bd (gainC hv hx hs1.1 r51) (fun g1 t1 ⟨eg, et⟩ => ?_)
    subst et
    refine Rt_bd (sumC hv hx hs1.1 r51) (fun g2 t2 ⟨eh, et⟩ => ?_)
    subst et
    rw [eg, eh]
    have go : btr (bpl v lim sg N z) (gan v z) (rsmm v z) → Rt (k_X5_findBest_103 (k_X5_findBest_49 f) a b1 b2 ((5 ^ nn v 4 : Nat) : Int) (z : Int) (gan v z) (rsmm v z) 1 t2) (fun r s => ScOK v μ s ∧ r = (bpl v lim sg N (5 ^ nn v 4)).1 ∧ (r ≠ -10000009 → ∀ w : Nat, w < nn v 4 → s.1 49 w = ((lvn (nn v 4) w (bpl v lim sg N (5 ^ nn v 4)).2.2 : Nat) : Int))) := by
      intro gb
      unfold k_X5_findBest_103
      refine Rt_neg (by decide) (Rt_bd (cmay hv hN hs1 (rtn_wf hv hx z) (rtn_wx hv hx z) r51 ea) (fun r s2 ⟨sc2, i49, i50, ho⟩ => ?_))
      have scn := sc1.trans sc2
      rcases ho with ⟨r1, hm⟩ | ⟨r0, hm⟩
      · refine Rt_neg (by omega) (Rt_ck (by omega) (Rt_lm (Rt_lt ?_)))
        rw [w32s (by omega)]
        refine hnext (gan v z, rsmm v z, gCopy s2 50 0 49 0 3) ⟨scn.o (gCopy_o s2) (fun k hk => by unfold PSc; omega) (fun _ _ hk => hk.elim), ?_, ?_, fun _ w hw => ?_⟩
        · rw [bpl_y gb hm]
        · rw [bpl_y gb hm]
        · rw [bpl_y gb hm]
          refine (gCopy_at s2 (by omega)).trans ?_
          rw [i50]; exact (l1 w hw).1
      · refine Rt_pos r0 (Rt_lt ?_)
        rw [w32s (by omega)]
        have eb := bpl_n (v := v) (lim := lim) (sg := sg) (N := N) (k := z) (fun z => hm z.2)
        refine hnext (b1, b2, s2) ⟨scn, ?_, ?_, fun nb w hw => ?_⟩
        · rw [eb]; exact e1
        · rw [eb]; exact e2
        · rw [eb]
          refine Eq.trans (congrFun i49 _) ?_
          rw [r49]; exact e3 nb w hw
    have no : ¬ btr (bpl v lim sg N z) (gan v z) (rsmm v z) → Rt (k_X5_findBest_102 (k_X5_findBest_49 f) a b1 b2 ((5 ^ nn v 4 : Nat) : Int) (z : Int) (gan v z) (rsmm v z) t2) (fun r s => ScOK v μ s ∧ r = (bpl v lim sg N (5 ^ nn v 4)).1 ∧ (r ≠ -10000009 → ∀ w : Nat, w < nn v 4 → s.1 49 w = ((lvn (nn v 4) w (bpl v lim sg N (5 ^ nn v 4)).2.2 : Nat) : Int))) := by
      intro gb
      unfold k_X5_findBest_102 k_X5_findBest_103
      refine Rt_pos rfl (Rt_lt ?_)
      rw [w32s (by omega)]
      have eb := bpl_n (v := v) (lim := lim) (sg := sg) (N := N) (k := z) (fun z => gb z.1)
      refine hnext (b1, b2, t2) ⟨sc1, ?_, ?_, fun nb w hw => ?_⟩
      · rw [eb]; exact e1
      · rw [eb]; exact e2
      · rw [eb]
        refine Eq.trans (congrFun r49 _) ?_
        exact e3 nb w hw
    unfold btr at go no
    rw [← e1, ← e2] at go no
    refine Rt_if (fun c1 => go (Or.inl c1)) (fun c1 => Rt_if (fun c2 => go (Or.inr (Or.inl c2))) (fun c2 => Rt_if (fun c3 => Rt_if (fun c4 => go (Or.inr (Or.inr ⟨c3, c4⟩))) (fun c4 => no ?_)) (fun c3 => no ?_)))
    · intro z; rcases z with z | z | z
      · exact c1 z
      · exact c2 z
      · exact c4 z.2
    · intro z; rcases z with z | z | z
      · exact c1 z
      · exact c2 z
      · exact c3 z.1
  · intro f ⟨b1, b2, s⟩ ⟨sc, e1, e2, e3⟩
    show Rt (k_X5_findBest_49 (f + 1) a b1 b2 ((5 ^ nn v 4 : Nat) : Int) ((5 ^ nn v 4 : Nat) : Int) s) _
    rw [k_X5_findBest_49]
    exact Rt_neg (by omega) (Rt_some ⟨sc, e1, e3⟩)
