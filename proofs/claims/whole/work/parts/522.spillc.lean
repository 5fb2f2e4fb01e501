/-! spills: the one side -/
theorem chb {v : LV} (hv : wfL v) {μ : GM} {p : Int} (hc : cV 22 μ = v) (ra : restAt v 94 μ p) {d : Nat} (hd : d < 64) : Rt (f_X8_highestBut (d : Int) μ) (fun r μ' => r = hbI (upv v p) d (nn v 0) ∧ μ' = μ) := by
  have n0 := nn_c hv 0 (by omega)
  have l0 := hv.1
  unfold f_X8_highestBut
  refine Rt_loop (fun f z (q : Int) => k_X8_highestBut_5 f (d : Int) q z μ) _ (nn v 0) (fun z q => q = hbI (upv v p) d z) ?_ ?_ FU 0 (-10000009) (by omega) (FU_gt (by omega)) rfl
  · intro f z q hz e hnext
    show Rt (k_X8_highestBut_5 (f + 1) (d : Int) q (z : Int) μ) _
    rw [k_X8_highestBut_5, lcN0 hc, gbitn (by omega) (by omega)]
    refine Rt_pos (by omega) ?_
    by_cases qb : d / 2 ^ z % 2 = 0
    · refine Rt_pos (by rw [qb]; rfl) ?_
      cases eh : hb (upv v p) d z with
      | none =>
        have eg : q = -10000009 := by rw [e]; unfold hbI; rw [eh]
        refine Rt_pos eg (Rt_lt ?_)
        rw [w32s (by omega)]
        refine hnext _ ?_
        unfold hbI hb
        rw [if_pos qb, eh]
      | some k =>
        have eg : q = (k : Int) := by rw [e]; unfold hbI; rw [eh]
        have kl := (hb_some _ _ _ _ eh).1
        refine Rt_neg (by omega) (Rt_ck (by omega) (Rt_ck (by omega) ?_))
        rw [eg, show μ.1 99 (k : Int) = upv v p k from ra.2.2.2.2.2 k (by omega), show μ.1 99 (z : Int) = upv v p z from ra.2.2.2.2.2 z hz]
        refine Rt_if (fun g => Rt_lt ?_) (fun g => Rt_lt ?_)
        · rw [w32s (by omega)]
          refine hnext _ ?_
          unfold hbI hb
          rw [if_pos qb, eh]
          dsimp only
          rw [if_pos g]
        · rw [w32s (by omega)]
          refine hnext _ ?_
          unfold hbI hb
          rw [if_pos qb, eh]
          dsimp only
          rw [if_neg g]
    · refine Rt_neg (fun z => qb (by omega)) (Rt_lt ?_)
      rw [w32s (by omega)]
      refine hnext _ ?_
      rw [e]
      unfold hbI
      rw [show hb (upv v p) d (z + 1) = hb (upv v p) d z by rw [hb, if_neg qb]]
  · intro f q e
    show Rt (k_X8_highestBut_5 (f + 1) (d : Int) q ((nn v 0 : Nat) : Int) μ) _
    rw [k_X8_highestBut_5, lcN0 hc]
    exact Rt_neg (by omega) (Rt_some ⟨e, rfl⟩)
def P26 : Nat → Prop := fun k => k = 26
theorem cdel {v : LV} (hv : wfL v) {μ : GM} (hc : cV 22 μ = v) {i : Nat} (hi : i < 20) {t : Int} (et : μ.1 24 i = t) (ht : (0 ≤ t ∧ t < v.2 0) ∨ 100 ≤ t) (sh e : Int) :
    ∃ μ', f_X8_deliver (i : Int) sh e μ = some (if 100 ≤ e then (if t = e then sh else 0) else 0, μ') ∧ ofr P26 nF μ μ' ∧ ∀ y : Nat, y < nn v 0 → μ'.1 26 y = if t = (y : Int) then w32 (μ.1 26 y + sh) else μ.1 26 y := by
  have n0 := nn_c hv 0 (by omega)
  have l0 := hv.1
  unfold f_X8_deliver
  rw [ck_pos (by omega), et]
  rcases ht with h | h
  · rw [hasCell_y (lcN0 hc) h, bdS_eq, if_neg (by decide), ck_pos (by omega), et, ck_pos (by omega), ck_pos (by omega)]
    refine ⟨gA μ 26 t (w32 (μ.1 26 t + sh)), ?_, ofr.rfl.a rfl, fun y hy => ?_⟩
    · unfold lm
      by_cases q : 100 ≤ e
      · rw [if_pos q, if_neg (by omega)]
      · rw [if_neg q]
    · rw [gA_at]
      by_cases q : t = (y : Int)
      · rw [if_pos q, if_pos q.symm, q]
      · rw [if_neg q, if_neg (fun z => q z.symm)]
  · rw [hasCell_n (lcN0 hc) (by omega), bdS_eq, if_pos rfl, ck_pos (by omega), et]
    refine ⟨μ, ?_, ofr.rfl, fun y hy => ?_⟩
    · by_cases q : t = e
      · rw [if_pos q, if_pos (by omega), if_pos q]
      · rw [if_neg q]
        by_cases q2 : 100 ≤ e
        · rw [if_pos q2, if_neg q]
        · rw [if_neg q2]
    · rw [if_neg (by omega)]
theorem cV_26 {v : LV} {μ s : GM} (hc : cV 22 μ = v) (o : ofr P26 nF μ s) : cV 22 s = v := (cV_keep o (fun k hk => by unfold P26; omega) (fun _ _ _ z => z) (by unfold P26; omega)).trans hc
theorem cOut_26 {μ s : GM} {o : OT} (h : cOut μ o) (k : ofr P26 nF μ s) : cOut s o := by
  refine ⟨(k.2 23 2 (fun z => z)).trans h.1, fun i hi => ?_⟩
  rw [k.1 24 (by unfold P26; omega), k.1 25 (by unfold P26; omega)]
  exact h.2 i hi
theorem chand {v : LV} (hv : wfL v) {p : Int} (hr : isR v p) {μ : GM} (hc : cV 22 μ = v) {c : Nat} {o : OT} (eo : o = outs v p c) (h : cOut μ o) (h0 : o.1 ≠ 0) {m : Int} (m0 : 0 ≤ m) (m1 : m ≤ 1000000) (e : Int) (rng : ∀ y : Nat, y < nn v 0 → 0 ≤ μ.1 26 y ∧ μ.1 26 y + arr o m y ≤ 2000000000) :
    Rt (f_X8_handOn m e μ) (fun r μ' => r = (if 100 ≤ e then arr o m e else 0) ∧ ofr P26 nF μ μ' ∧ ∀ y : Nat, y < nn v 0 → μ'.1 26 y = μ.1 26 y + arr o m y) := by
  have n0 := nn_c hv 0 (by omega)
  have l6 := n6 hv
  have hl : o.1 ≤ 20 := by rw [eo]; exact outs_len hv p c
  have ok : oOK (v.2 0) o := by rw [eo]; exact outs_ok hv p c
  have sf : oSf o := by rw [eo]; exact outs_sf hv hr c
  have tf := tot_f hv hr c o.1 (by rw [eo]; exact Nat.le_refl _)
  rw [← eo] at tf
  have T1 := ok.tot h0
  have lf := ok.lf h0 m0
  have tot := ar_tot (n := nn v 0) (o := o) (by rw [n0]; exact ok) l6 h0 m0 e
  have an : ∀ t : Int, 0 ≤ arr o m t := fun t => arz_nn (fun i hi => (ok.am m0 hi).2)
  have sn : 0 ≤ sumn (nn v 0) (fun t => arr o m t) := sumn_nn (fun i _ => an i)
  have ae := an e
  have part : ∀ z, z ≤ o.1 → ∀ t : Int, 0 ≤ arz (shv o m) o z t ∧ arz (shv o m) o z t ≤ arr o m t := by
    intro z hz t
    refine ⟨arz_nn (fun i hi => (ok.sh m0 (by omega)).1), Int.le_trans (arz_pre hz (fun i hi => (ok.sh m0 hi).1)) (sumn_le (fun i hi => ?_))⟩
    have := (ok.am m0 hi).1
    split <;> omega
  have shs : ∀ z, z ≤ o.1 → 0 ≤ sumn z (shv o m) ∧ sumn z (shv o m) ≤ m := by
    intro z hz
    have a := sumn_pre (f := shv o m) hz (fun i hi => (ok.sh m0 hi).1)
    have b : 0 ≤ sumn z (shv o m) := sumn_nn (fun i hi => (ok.sh m0 (by omega)).1)
    have c := lf.2
    unfold lft at c
    omega
  unfold f_X8_handOn
  refine Rt_bd (cmain_eq h hl) (fun g μ1 ⟨eg, e1⟩ => ?_)
  subst e1
  have ft := cft_eq hv hr (μ := μ1) (c := c) (by rw [← eo]; exact h)
  rw [← eo] at ft
  refine Rt_bd ft (fun T μ2 ⟨eT, e2⟩ => ?_)
  subst e2
  obtain ⟨k, hk⟩ := gr_some o.2.2 o.1 (by omega)
  have kl := gr_lt _ _ _ hk
  have eg : g = (k : Int) := by rw [eg]; unfold grI; rw [hk]
  rw [eg, eT]
  refine Rt_loop (σ := Int × Int × GM) (fun f z t => k_X8_handOn_20 f m e t.1 t.2.1 (k : Int) (sumn o.1 o.2.2) z t.2.2) _ o.1 (fun z t => t.1 = (if 100 ≤ e then arz (shv o m) o z e else 0) ∧ t.2.1 = m - sumn z (shv o m) ∧ ofr P26 nF μ2 t.2.2 ∧ ∀ y : Nat, y < nn v 0 → t.2.2.1 26 y = μ2.1 26 y + arz (shv o m) o z y) ?_ ?_ FU 0 (0, m, μ2) (by omega) (FU_gt (by omega)) ⟨?_, ?_, ofr.rfl, fun y hy => ?_⟩
  · intro f z ⟨r, ov, s⟩ hz ⟨i1, i2, i3, i4⟩ hnext
    have i1 : r = (if 100 ≤ e then arz (shv o m) o z e else 0) := i1
    have i2 : ov = m - sumn z (shv o m) := i2
    have i3 : ofr P26 nF μ2 s := i3
    have i4 : ∀ y : Nat, y < nn v 0 → s.1 26 y = μ2.1 26 y + arz (shv o m) o z y := i4
    show Rt (k_X8_handOn_20 (f + 1) m e r ov (k : Int) (sumn o.1 o.2.2) (z : Int) s) _
    have co := cOut_26 h i3
    have fz := sf z hz
    have le := ok.le hz
    have shz := ok.sh m0 hz
    have p1 := shs z (by omega)
    have p2 := shs (z + 1) (by omega)
    have p2' : sumn (z + 1) (shv o m) = sumn z (shv o m) + shv o m z := rfl
    rw [k_X8_handOn_20, co.1, (co.2 z hz).2]
    have sheq : f_X8_shareByFlow m (o.2.2 z) (sumn o.1 o.2.2) s = some (shv o m z, s) := cshare m0 m1 (by omega) fz.2 le T1 (by omega)
    obtain ⟨s', d1, d2, d3⟩ := cdel hv (cV_26 hc i3) (i := z) (by omega) (co.2 z hz).1 (ok.tgt z hz) (shv o m z) e
    refine Rt_pos (by omega) (Rt_ck (by omega) (Rt_bde sheq (Rt_lt (Rt_bde d1 (Rt_lt (Rt_lt ?_))))))
    rw [w32s (by omega)]
    refine hnext (w32 (r + (if 100 ≤ e then (if o.2.1 z = e then shv o m z else 0) else 0)), w32 (ov - shv o m z), s') ⟨?_, ?_, i3.trans d2, fun y hy => ?_⟩
    · show w32 (r + (if 100 ≤ e then (if o.2.1 z = e then shv o m z else 0) else 0)) = (if 100 ≤ e then arz (shv o m) o (z + 1) e else 0)
      rw [i1]
      by_cases q : 100 ≤ e
      · rw [if_pos q, if_pos q, if_pos q]
        rw [if_pos q] at tot
        have a := part (z + 1) (by omega) e
        have a2 : arz (shv o m) o (z + 1) e = arz (shv o m) o z e + (if o.2.1 z = e then shv o m z else 0) := rfl
        rw [← a2, w32i (by omega) (by omega)]
      · rw [if_neg q, if_neg q, if_neg q]; rfl
    · show w32 (ov - shv o m z) = m - sumn (z + 1) (shv o m)
      rw [i2, w32i (by omega) (by omega)]
      omega
    · show s'.1 26 y = _
      rw [d3 y hy, i4 y hy]
      have a := part (z + 1) (by omega) y
      have a2 : arz (shv o m) o (z + 1) y = arz (shv o m) o z y + (if o.2.1 z = y then shv o m z else 0) := rfl
      have r := rng y hy
      rw [a2] at a
      rw [a2]
      by_cases q : o.2.1 z = (y : Int)
      · rw [if_pos q] at a
        rw [if_pos q, if_pos q, w32i (by omega) (by omega)]; omega
      · rw [if_neg q, if_neg q]; omega
  · intro f ⟨r, ov, s⟩ ⟨i1, i2, i3, i4⟩
    have i1 : r = (if 100 ≤ e then arz (shv o m) o o.1 e else 0) := i1
    have i2 : ov = m - sumn o.1 (shv o m) := i2
    have i3 : ofr P26 nF μ2 s := i3
    have i4 : ∀ y : Nat, y < nn v 0 → s.1 26 y = μ2.1 26 y + arz (shv o m) o o.1 y := i4
    show Rt (k_X8_handOn_20 (f + 1) m e r ov (k : Int) (sumn o.1 o.2.2) (o.1 : Int) s) _
    have co := cOut_26 h i3
    have i2 : ov = lft o m := i2
    rw [k_X8_handOn_20, co.1]
    obtain ⟨s', d1, d2, d3⟩ := cdel hv (cV_26 hc i3) (i := k) (by omega) (co.2 k kl).1 (ok.tgt k kl) ov e
    refine Rt_neg (by omega) (Rt_neg (by omega) (Rt_bde d1 (Rt_some ⟨?_, i3.trans d2, fun y hy => ?_⟩)))
    · rw [i1, i2]
      by_cases q : 100 ≤ e
      · rw [if_pos q, if_pos q, if_pos q, ← ar_split hk e]
        rw [if_pos q] at tot
        rw [w32i (by omega) (by omega)]
      · rw [if_neg q, if_neg q, if_neg q]; rfl
    · rw [d3 y hy, i4 y hy, i2]
      have sp := ar_split (m := m) hk y
      have r := rng y hy
      have a := part o.1 (Nat.le_refl _) y
      have l := lf.2
      by_cases q : o.2.1 k = (y : Int)
      · rw [if_pos q] at sp
        rw [if_pos q, w32i (by omega) (by omega)]; omega
      · rw [if_neg q] at sp
        rw [if_neg q]; omega
  · show (0 : Int) = (if 100 ≤ e then 0 else 0)
    split <;> rfl
  · show m = m - 0
    omega
  · show μ2.1 26 y = μ2.1 26 y + 0
    omega
def Pw : Nat → Prop := fun k => k = 24 ∨ k = 25 ∨ k = 26
def spv (v : LV) (p e : Int) (c : Nat) : Int := if 100 ≤ e then (runS v p e c (nn v 0)).2.2 else (runS v p e c (nn v 0)).2.1 e.toNat
theorem cparts {v : LV} (hv : wfL v) {p : Int} {μ : GM} (hc : cV 22 μ = v) (ra : restAt v 94 μ p) {c : Nat} (hcn : c < nn v 0) {e : Int} (he : (0 ≤ e ∧ e < v.2 0) ∨ 100 ≤ e) : Rt (f_X8_partsThatReach (c : Int) e μ) (fun r s => r = spv v p e c ∧ ofr Pw FGc μ s) := by
  have n0 := nn_c hv 0 (by omega)
  have l0 := hv.1
  have l6 := n6 hv
  have hr := ra.2.2.1
  unfold f_X8_partsThatReach
  refine Rt_bd (fillI_spec (a := 26) (N := 6) (by decide +kernel) (by omega) 0 μ) (fun _ μ1 ⟨k1, k2, _⟩ => Rt_ck (by omega) (Rt_lm ?_))
  have w26 : Pw 26 := by unfold Pw; omega
  refine Rt_loop (σ := Int × Int × GM) (fun f z t => k_X8_partsThatReach_24 f e t.1 t.2.1 z t.2.2) _ (nn v 0) (fun z t => t.1 = (if 100 ≤ e then (runS v p e c z).2.2 else if (runS v p e c z).1 / 2 ^ e.toNat % 2 = 1 then (runS v p e c z).2.1 e.toNat else 0) ∧ t.2.1 = ((runS v p e c z).1 : Int) ∧ ofr Pw FGc μ t.2.2 ∧ ∀ y : Nat, y < nn v 0 → (0 ≤ t.2.2.1 26 y ∧ t.2.2.1 26 y ≤ 1000000) ∧ ((runS v p e c z).1 / 2 ^ y % 2 = 0 → t.2.2.1 26 y = (runS v p e c z).2.1 y)) ?_ ?_ FU 0 (0, 0, gA μ1 26 (c : Int) 1000000) (by omega) (FU_gt (by omega)) ⟨?_, rfl, ?_, fun y hy => ?_⟩
  · intro f z ⟨r, d, s⟩ hz ⟨i1, i2, i3, i4⟩ hnext
    obtain ⟨S, hS⟩ : ∃ S, S = runS v p e c z := ⟨_, rfl⟩
    have nxt : runS v p e c (z + 1) = stepS v p e S := by rw [hS]; rfl
    have sp := run_ok hv (p := p) (e := e) hcn z (by omega)
    rw [← hS] at i1 i2 i4 sp
    have j1 : r = (if 100 ≤ e then S.2.2 else if S.1 / 2 ^ e.toNat % 2 = 1 then S.2.1 e.toNat else 0) := i1
    have i2 : d = (S.1 : Int) := i2
    have i3 : ofr Pw FGc μ s := i3
    have i4 : ∀ y : Nat, y < nn v 0 → (0 ≤ s.1 26 y ∧ s.1 26 y ≤ 1000000) ∧ (S.1 / 2 ^ y % 2 = 0 → s.1 26 y = S.2.1 y) := i4
    obtain ⟨a, h1, h2, h3, h4, h5, h6⟩ := step_ok hv (e := e) sp hz
    have tl := two_le (nn v 0) (by omega)
    have sd := sp.d
    have kc : cV 22 s = v := (cV_keep i3 (fun k hk => by unfold Pw; omega) (fun k j hk => by unfold FGc; omega) (by unfold Pw; omega)).trans hc
    have kr : restAt v 94 s p := rest_keepC ra i3 (by unfold Pw; omega) (by unfold FGc; omega) (by unfold FGc; omega)
    obtain ⟨b1, b2, b3⟩ := bt_add (nn v 0) (by omega) a h2 S.1 sd h3
    show Rt (k_X8_partsThatReach_24 (f + 1) e r d (z : Int) s) _
    rw [k_X8_partsThatReach_24, lcN0 kc, i2]
    refine Rt_pos (by omega) (Rt_bd (chb hv kc kr (by omega)) (fun x s1 ⟨ex, es⟩ => ?_))
    subst es
    have ex : x = (a : Int) := by rw [ex]; unfold hbI; rw [h1]
    rw [ex]
    refine Rt_neg (by omega) (Rt_lt ?_)
    rw [bt_or a (by omega) S.1 (by omega) h3]
    refine Rt_bd (gather_spec hv kc kr a) (fun _ s2 ⟨o2, h7⟩ => ?_)
    have o3 : ofr Pw FGc μ s2 := i3.trans (o2.mono (fun k hk => by unfold PGc at hk; unfold Pw; omega) (fun _ _ z => z))
    have e26 : s2.1 26 = s1.1 26 := o2.1 26 (by unfold PGc; omega)
    have kc2 : cV 22 s2 = v := (cV_keep o3 (fun k hk => by unfold Pw; omega) (fun k j hk => by unfold FGc; omega) (by unfold Pw; omega)).trans hc
    rw [h7.1]
    rw [← nxt] at h4 h5
    have sda : ∀ y, y < nn v 0 → (runS v p e c (z + 1)).1 / 2 ^ y % 2 = if y = a then 1 else S.1 / 2 ^ y % 2 := by rw [h4]; exact b3
    have sd1 : (runS v p e c (z + 1)).1 = S.1 + 2 ^ a := by rw [h4]
    have bit : ∀ y, S.1 / 2 ^ y % 2 = 0 ∨ S.1 / 2 ^ y % 2 = 1 := fun y => by omega
    by_cases q : (outs v p a).1 = 0
    · simp only [if_pos q] at h4
      refine Rt_neg (by omega) ?_
      refine Rt_if (fun g => Rt_ck (by omega) (Rt_lt (Rt_lt ?_))) (fun g => Rt_lt ?_)
      · rw [w32s (by omega)]
        refine hnext (s2.1 26 (a : Int), ((S.1 + 2 ^ a : Nat) : Int), s2) ⟨?_, ?_, o3, fun y hy => ?_⟩
        · show s2.1 26 (a : Int) = _
          have ea : e.toNat = a := by omega
          rw [if_neg (by omega), ea, sda a h2, if_pos rfl, if_pos rfl, h4, e26]
          exact (i4 a h2).2 h3
        · show ((S.1 + 2 ^ a : Nat) : Int) = _
          rw [sd1]
        · show (0 ≤ s2.1 26 y ∧ s2.1 26 y ≤ 1000000) ∧ _
          rw [e26]
          refine ⟨(i4 y hy).1, fun hd => ?_⟩
          rw [sda y hy] at hd
          rw [h4]
          by_cases qy : y = a
          · rw [if_pos qy] at hd; omega
          · rw [if_neg qy] at hd; exact (i4 y hy).2 hd
      · rw [w32s (by omega)]
        refine hnext (r, ((S.1 + 2 ^ a : Nat) : Int), s2) ⟨?_, ?_, o3, fun y hy => ?_⟩
        · show r = _
          rw [j1]
          by_cases qe : 100 ≤ e
          · rw [if_pos qe, if_pos qe, h4]
          · rw [if_neg qe, if_neg qe, sda e.toNat (by omega), if_neg (show ¬ e.toNat = a by omega), h4]
        · show ((S.1 + 2 ^ a : Nat) : Int) = _
          rw [sd1]
        · show (0 ≤ s2.1 26 y ∧ s2.1 26 y ≤ 1000000) ∧ _
          rw [e26]
          refine ⟨(i4 y hy).1, fun hd => ?_⟩
          rw [sda y hy] at hd
          rw [h4]
          by_cases qy : y = a
          · rw [if_pos qy] at hd; omega
          · rw [if_neg qy] at hd; exact (i4 y hy).2 hd
    · simp only [if_neg q] at h4
      have m0 := sp.pos a h2
      have m1 := sp.all a h2
      have em : s2.1 26 (a : Int) = S.2.1 a := by rw [e26]; exact (i4 a h2).2 h3
      have az : arr (outs v p a) (S.2.1 a) a = 0 := ar_low hv p a h2 (Int.le_refl _)
      have P' : ∀ y, y ≠ a → (runS v p e c (z + 1)).2.1 y = S.2.1 y + arr (outs v p a) (S.2.1 a) y := fun y hy => by rw [h4]; exact if_neg hy
      have rg : ∀ y : Nat, y < nn v 0 → 0 ≤ s2.1 26 y ∧ s2.1 26 y + arr (outs v p a) (S.2.1 a) y ≤ 1000000 := by
        intro y hy
        rw [e26]
        have b := (i4 y hy).1
        refine ⟨b.1, ?_⟩
        by_cases qy : y = a
        · rw [qy, az]; have := (i4 a h2).1; omega
        · rcases bit y with u | u
          · rw [(i4 y hy).2 u, ← P' y qy]
            exact h5.all y hy
          · rw [h6 y hy u]; omega
      refine Rt_pos (by omega) (Rt_ck (by omega) ?_)
      rw [em]
      refine Rt_bd (chand hv hr kc2 rfl h7 q m0 m1 e (fun y hy => ⟨(rg y hy).1, by have := (rg y hy).2; omega⟩)) (fun x2 s3 ⟨x3, o4, r4⟩ => Rt_lt (Rt_lt ?_))
      rw [w32s (by omega)]
      refine hnext (w32 (r + x2), ((S.1 + 2 ^ a : Nat) : Int), s3) ⟨?_, ?_, o3.trans (o4.mono (fun k hk => by unfold P26 at hk; unfold Pw; omega) (fun _ _ z => z.elim)), fun y hy => ?_⟩
      · show w32 (r + x2) = _
        rw [j1, x3]
        by_cases qe : 100 ≤ e
        · rw [if_pos qe, if_pos qe, if_pos qe]
          have e3 : (runS v p e c (z + 1)).2.2 = S.2.2 + arr (outs v p a) (S.2.1 a) e := by rw [h4]; simp only [if_pos qe]
          have s1 := h5.sum
          have s2 := h5.r0
          have us : 0 ≤ usum (nn v 0) (runS v p e c (z + 1)) := sumn_nn (fun t ht => by
            have := h5.pos t ht
            split <;> omega)
          rw [← e3, w32i (by omega) (by omega)]
        · rw [if_neg qe, if_neg qe, if_neg qe, sda e.toNat (by omega)]
          by_cases qa : e.toNat = a
          · rw [if_pos qa, if_pos rfl, qa, if_neg (by omega), h4]
            show w32 (0 + 0) = (if a = a then 0 else _)
            rw [if_pos rfl]; rfl
          · rw [if_neg qa, P' _ qa]
            rcases bit e.toNat with u | u
            · rw [if_neg (by omega), if_neg (by omega)]; rfl
            · rw [if_pos u, if_pos u, h6 _ (by omega) u]
              have t1 := sp.pos e.toNat (by omega)
              have t2 := sp.all e.toNat (by omega)
              rw [w32i (by omega) (by omega)]
      · show ((S.1 + 2 ^ a : Nat) : Int) = _
        rw [sd1]
      · show (0 ≤ s3.1 26 y ∧ s3.1 26 y ≤ 1000000) ∧ _
        rw [r4 y hy]
        have an : 0 ≤ arr (outs v p a) (S.2.1 a) y := arz_nn (fun i hi => ((outs_ok hv p a).am m0 hi).2)
        refine ⟨⟨by have := (rg y hy).1; omega, (rg y hy).2⟩, fun hd => ?_⟩
        rw [sda y hy] at hd
        by_cases qy : y = a
        · rw [if_pos qy] at hd; omega
        · rw [if_neg qy] at hd
          rw [P' y qy, e26, (i4 y hy).2 hd]
  · intro f ⟨r, d, s⟩ ⟨i1, i2, i3, i4⟩
    have i1 : r = (if 100 ≤ e then (runS v p e c (nn v 0)).2.2 else if (runS v p e c (nn v 0)).1 / 2 ^ e.toNat % 2 = 1 then (runS v p e c (nn v 0)).2.1 e.toNat else 0) := i1
    have i3 : ofr Pw FGc μ s := i3
    have kc : cV 22 s = v := (cV_keep i3 (fun k hk => by unfold Pw; omega) (fun k j hk => by unfold FGc; omega) (by unfold Pw; omega)).trans hc
    have sp := run_ok hv (p := p) (e := e) hcn (nn v 0) (Nat.le_refl _)
    show Rt (k_X8_partsThatReach_24 (f + 1) e r d ((nn v 0 : Nat) : Int) s) _
    rw [k_X8_partsThatReach_24, lcN0 kc]
    refine Rt_neg (by omega) (Rt_some ⟨?_, i3⟩)
    unfold spv
    rw [i1]
    by_cases qe : 100 ≤ e
    · rw [if_pos qe, if_pos qe]
    · rw [if_neg qe, if_neg qe, if_pos (bt_all (nn v 0) (by omega) _ sp.d sp.pc e.toNat (by omega))]
  · show (0 : Int) = (if 100 ≤ e then (runS v p e c 0).2.2 else if (runS v p e c 0).1 / 2 ^ e.toNat % 2 = 1 then (runS v p e c 0).2.1 e.toNat else 0)
    by_cases qe : 100 ≤ e
    · rw [if_pos qe]; rfl
    · rw [if_neg qe, if_neg (by show ¬ (0 / 2 ^ e.toNat % 2 = 1); rw [Nat.zero_div]; decide)]
  · exact (k1.mono (fun k hk => by unfold Pw; omega) (fun _ _ z => z.elim)).a w26
  · show (0 ≤ (gA μ1 26 (c : Int) 1000000).1 26 y ∧ (gA μ1 26 (c : Int) 1000000).1 26 y ≤ 1000000) ∧ (_ → (gA μ1 26 (c : Int) 1000000).1 26 y = if y = c then 1000000 else 0)
    rw [gA_at]
    by_cases qy : (y : Int) = c
    · have : y = c := by omega
      rw [if_pos qy, if_pos this]; exact ⟨by omega, fun _ => rfl⟩
    · have : y ≠ c := by omega
      rw [if_neg qy, if_neg this, k2 y (by omega)]; exact ⟨by omega, fun _ => rfl⟩
