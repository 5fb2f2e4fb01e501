/-! share -/
theorem w32_al (a b : Int) : w32 (w32 a + b) = w32 (a + b) := by
  show (Int32.ofInt (w32 a + b)).toInt = (Int32.ofInt (a + b)).toInt
  rw [Int32.ofInt_add, of_w32, ← Int32.ofInt_add]
theorem w32_ar (a b : Int) : w32 (a + w32 b) = w32 (a + b) := by
  show (Int32.ofInt (a + w32 b)).toInt = (Int32.ofInt (a + b)).toInt
  rw [Int32.ofInt_add, of_w32, ← Int32.ofInt_add]
theorem w32_ml (a b : Int) : w32 (w32 a * b) = w32 (a * b) := by
  show (Int32.ofInt (w32 a * b)).toInt = (Int32.ofInt (a * b)).toInt
  rw [Int32.ofInt_mul, of_w32, ← Int32.ofInt_mul]
theorem w32_mr (a b : Int) : w32 (a * w32 b) = w32 (a * b) := by
  show (Int32.ofInt (a * w32 b)).toInt = (Int32.ofInt (a * b)).toInt
  rw [Int32.ofInt_mul, of_w32, ← Int32.ofInt_mul]
theorem w32_ww (a : Int) : w32 (w32 a) = w32 a := by
  show (Int32.ofInt (w32 a)).toInt = (Int32.ofInt a).toInt
  rw [of_w32]
def pcn (z : Nat) : Nat := z % 2 + z / 2 % 2 + z / 4 % 2
def bcv (z0 : Int) : Int :=
  let x1 := w32 (z0 - (gand (gushr z0 1) 1431655765))
  let x2 := w32 ((gand x1 858993459) + (gand (gushr x1 2) 858993459))
  let x3 := gand (w32 (x2 + (gushr x2 4))) 252645135
  let x4 := w32 (x3 + (gushr x3 8))
  let x5 := w32 (x4 + (gushr x4 16))
  gand x5 63
theorem bcv_eq : ∀ z : Nat, z < 8 → bcv (z : Int) = ((pcn z : Nat) : Int) := by decide +kernel
theorem pc_le : ∀ z : Nat, z < 8 → pcn z ≤ 3 := by decide +kernel
theorem gbit : ∀ z : Nat, z < 8 → ∀ w : Nat, w < 3 → gand (gshr (z : Int) (w : Int)) 1 = ((z / 2 ^ w % 2 : Nat) : Int) := by decide +kernel
theorem gorb : ∀ z : Nat, z < 8 → ∀ w : Nat, w < 3 → z / 2 ^ w % 2 = 0 → gor (z : Int) (gshl 1 (w : Int)) = ((z + 2 ^ w : Nat) : Int) := by decide +kernel
theorem gpow : ∀ n : Nat, n < 4 → gshl 1 (n : Int) = ((2 ^ n : Nat) : Int) ∧ 2 ^ n ≤ 8 := by decide +kernel
theorem pc_lt : ∀ n : Nat, n < 4 → ∀ w : Nat, w < n → ∀ z : Nat, z < 2 ^ n → z / 2 ^ w % 2 = 0 → pcn z < n ∧ z + 2 ^ w < 2 ^ n := by decide +kernel
theorem pc_ge : ∀ w : Nat, w < 3 → ∀ z : Nat, z < 8 → z / 2 ^ w % 2 = 1 → 1 ≤ pcn z := by decide +kernel
theorem pcm : ∀ z : Nat, z < 8 → w32 ((w32 ((gand (z : Int) 1) + (gand (gshr (z : Int) 1) 1))) + (gand (gshr (z : Int) 2) 1)) = ((pcn z : Nat) : Int) := by decide +kernel
theorem ordB {n z : Nat} {s : GM} (hn : s.2 18 0 = (n : Int)) (hz : z < 8) (hp : pcn z < n) (h3 : n ≤ 3) : f_X5_ordersBehind (z : Int) s = some (w32 (gfac (pcn z) * gfac (n - 1 - pcn z)), s) := by
  have e : f_J6_bitCount_0f7a4 (z : Int) s = some (((pcn z : Nat) : Int), s) := by rw [← bcv_eq z hz]; rfl
  unfold f_X5_ordersBehind
  rw [e, bdS_eq, hn, ck_pos (by omega), w32i (x := (n : Int) - 1) (by omega) (by omega), w32i (x := (n : Int) - 1 - ((pcn z : Nat) : Int)) (by omega) (by omega), ck_pos (by omega)]
  rw [show ((n : Int) - 1 - ((pcn z : Nat) : Int)).toNat = n - 1 - pcn z by omega, show (((pcn z : Nat) : Int)).toNat = pcn z by omega]
def shc (n w : Nat) (r : Nat → Int) : Nat → Int
  | 0 => 0
  | z + 1 => if z / 2 ^ w % 2 = 0 then w32 (shc n w r z + w32 (w32 (gfac (pcn z) * gfac (n - 1 - pcn z)) * w32 (r z - r (z + 2 ^ w)))) else shc n w r z
def wgt (n a : Nat) : Int := if n = 1 then 6 else if n = 2 then 3 else if a = 1 then 1 else 2
def shm (n w : Nat) (r : Nat → Int) : Nat → Int
  | 0 => 0
  | z + 1 => if z / 2 ^ w % 2 = 0 then w32 (shm n w r z + w32 (wgt n (pcn z) * r z)) else w32 (shm n w r z + w32 (w32 (-(wgt n (pcn z - 1))) * r z))
theorem sh63 {n w : Nat} (hn : n < 4) (hw : w < n) {r : Nat → Int} {s : GM} (e18 : s.2 18 0 = (n : Int)) (e : ∀ z : Nat, z < 2 ^ n → s.1 52 z = r z) {Q : Int → GM → Prop} (fin : Q (w32 (shc n w r (2 ^ n) * w32 (Int.tdiv (gfac 3) (gfac n)))) s) : Rt (k_X5_shareOf_63 FU (w : Int) (n : Int) 0 0 s) Q := by
  have p8 := (gpow n hn).2
  refine Rt_loop (fun f z (a : Int) => k_X5_shareOf_63 f (w : Int) (n : Int) a z s) Q (2 ^ n) (fun z a => a = shc n w r z) ?_ ?_ FU 0 0 (Nat.zero_le _) (FU_gt (by omega)) rfl
  · intro f z a hz ha hnext
    show Rt (k_X5_shareOf_63 (f + 1) (w : Int) (n : Int) a (z : Int) s) Q
    rw [k_X5_shareOf_63, (gpow n hn).1, gbit z (by omega) w (by omega)]
    refine Rt_pos (Int.ofNat_lt.mpr hz) ?_
    by_cases q : z / 2 ^ w % 2 = 0
    · have pl := pc_lt n hn w hw z hz q
      refine Rt_pos (by rw [q]; rfl) (Rt_bde (ordB e18 (by omega) pl.1 (by omega)) (Rt_ck (by omega) ?_))
      rw [gorb z (by omega) w (by omega) q]
      have p0 : 0 ≤ ((2 ^ w : Nat) : Int) := Int.natCast_nonneg _
      refine Rt_ck (by omega) (Rt_lt (Rt_lt ?_))
      rw [e z hz, e (z + 2 ^ w) pl.2, w32s (by omega)]
      exact hnext _ (by rw [shc, if_pos q, ha])
    · refine Rt_neg (fun z => q (by omega)) (Rt_lt ?_)
      rw [w32s (by omega)]
      exact hnext _ (by rw [shc, if_neg q]; exact ha)
  · intro f a ha
    show Rt (k_X5_shareOf_63 (f + 1) (w : Int) (n : Int) a ((2 ^ n : Nat) : Int) s) Q
    rw [k_X5_shareOf_63, (gpow n hn).1]
    refine Rt_neg (by omega) (Rt_ck (by omega) (Rt_ck (by omega) ?_))
    rw [show ((n : Int)).toNat = n by omega, show ((3 : Int)).toNat = 3 by rfl, ha]
    refine Rt_ck ?_ (Rt_some fin)
    rcases (show n = 1 ∨ n = 2 ∨ n = 3 by omega) with y | y | y <;> (rw [y]; decide)
theorem sh110 {kL : Int → Int → Int → Int → GM → Option (Int × GM)} {z1 z2 z3 z4 z5 z7 : Int} {n a : Nat} {μ : GM} (e : μ.2 53 18 = (n : Int)) : k_X12_share_110 kL z1 z2 z3 z4 z5 z7 (a : Int) μ = k_X12_share_148 kL z1 z2 z3 z4 z5 z7 (wgt n a) μ := by
  unfold k_X12_share_110 wgt
  rw [e]
  by_cases q1 : n = 1
  · rw [if_pos q1, if_pos (by omega)]
  rw [if_neg q1, if_neg (by omega)]
  by_cases q2 : n = 2
  · rw [if_pos q2, if_pos (by omega)]
  rw [if_neg q2, if_neg (by omega)]
  by_cases q3 : a = 1
  · rw [if_pos q3, if_pos (by omega)]
  rw [if_neg q3, if_neg (by omega)]
theorem sh_eq (n w : Nat) (r : Nat → Int) (hn : n < 4) (hw : w < n) : w32 (shc n w r (2 ^ n) * w32 (Int.tdiv (gfac 3) (gfac n))) = shm n w r (2 ^ n) := by
  rcases (show (n = 1 ∧ w = 0) ∨ (n = 2 ∧ w = 0) ∨ (n = 2 ∧ w = 1) ∨ (n = 3 ∧ w = 0) ∨ (n = 3 ∧ w = 1) ∨ (n = 3 ∧ w = 2) by omega) with ⟨a, b⟩ | ⟨a, b⟩ | ⟨a, b⟩ | ⟨a, b⟩ | ⟨a, b⟩ | ⟨a, b⟩ <;> subst a <;> subst b
  all_goals
    simp [shc, shm, pcn, wgt, gfac, w32_al, w32_ar, w32_ml, w32_mr, w32_ww]
    try (congr 1; omega)
theorem cMW2 {v : LV} {μ : GM} (h : InvV v μ) (m : Int) {c : Nat} (hc : c < nn v 0) : Rt (f_X5_milliWith m (c : Int) μ) (fun r s => MWp v m c r ∧ ScOK v μ s ∧ s.1 52 = μ.1 52) := by
  have hv := h.1.2.2.1
  have n4 := nn_c hv 4 (by omega)
  have w4 := hv.2.2.2.2.1
  unfold f_X5_milliWith
  refine Rt_loop (fun f z s => k_X5_milliWith_2 f m (c : Int) z s) _ (nn v 4) (fun z s => ofr P51 nF μ s ∧ ∀ w : Nat, w < z → s.1 51 w = fm v m w) ?_ ?_ FU 0 μ (by omega) (FU_gt (by omega)) ⟨ofr.rfl, fun w hw => by omega⟩
  · intro f z s hz ⟨o, e⟩ hnext
    show Rt (k_X5_milliWith_2 (f + 1) m (c : Int) (z : Int) s) _
    have hcs : cV 22 s = v := (cV_keep o (fun k hk => by unfold P51; omega) (fun _ _ _ z => z) (by unfold P51; omega)).trans h.1.1
    rw [k_X5_milliWith_2, lcN4 hcs, lcA16 hcs, w32s (by omega)]
    have st : ∀ x, x = fm v m z → Rt (k_X5_milliWith_2 f m (c : Int) ((z + 1 : Nat) : Int) (gA s 51 z x)) (fun r s => MWp v m c r ∧ ScOK v μ s ∧ s.1 52 = μ.1 52) := by
      intro x hx
      refine hnext _ ⟨o.a rfl, fun w hw => ?_⟩
      rw [gA_at]
      by_cases q : (w : Int) = z
      · rw [if_pos q, hx, q]
      · rw [if_neg q]; exact e w (by omega)
    refine Rt_pos (by omega) (Rt_if (fun q => Rt_ck (by omega) (Rt_ck (by omega) (Rt_lm (Rt_lt (st _ ?_))))) (fun q => Rt_ck (by omega) (Rt_lm (Rt_lt (st _ ?_)))))
    · unfold fm; rw [if_pos q]
    · unfold fm; rw [if_neg q]
  · intro f s ⟨o, e⟩
    show Rt (k_X5_milliWith_2 (f + 1) m (c : Int) (nn v 4 : Int) s) _
    have hcs : cV 22 s = v := (cV_keep o (fun k hk => by unfold P51; omega) (fun _ _ _ z => z) (by unfold P51; omega)).trans h.1.1
    rw [k_X5_milliWith_2, lcN4 hcs]
    refine Rt_neg (by omega) (Rt_bd (settle51 h o (fm_wf hv m) e) (fun r s2 ⟨sc, o2, ho⟩ => ?_))
    have e52 : s2.1 52 = μ.1 52 := by rw [o2.1 52 (by unfold PR; omega), o.1 52 (by unfold P51; omega)]
    rcases ho with ⟨r1, p, hp⟩ | ⟨r0, hn⟩
    · refine Rt_neg (by omega) (Rt_bde (wM_of (fm_wf hv m) hp hc) (Rt_some ⟨⟨fun _ => rfl, fun q => absurd ⟨hp.1, p, hp.2.1, hp.2.2.1⟩ q⟩, sc, e52⟩))
    · exact Rt_pos r0 (Rt_some ⟨⟨fun q => absurd q hn, fun _ => rfl⟩, sc, e52⟩)
theorem ScOK.a52 {v : LV} {μ s : GM} (h : ScOK v μ s) {i x : Int} : ScOK v μ (gA s 52 i x) := by
  refine ⟨h.1.a (by unfold PSc; omega), cache_keep h.2.1 ?_ ?_ (fun z _ => ?_), h.2.2.1, h.2.2.2⟩
  · exact gA_nk _ _ _ (by omega)
  · exact gA_nk _ _ _ (by omega)
  · exact gA_nk _ _ _ (by omega)
theorem ok_share {v : LV} {μ : GM} (h : InvV v μ) (z1 z2 : Int) : PrOK (f_X11_share z1 z2) (f_X12_share z1 z2) μ := by
  have hv := h.1.2.2.1
  have n0 := nn_c hv 0 (by omega)
  have n4 := nn_c hv 4 (by omega)
  have l0 := hv.1
  have w4 := hv.2.2.2.2.1
  have hn : nn v 4 < 4 := by omega
  have p8 := (gpow _ hn).2
  by_cases q : 0 ≤ z1 ∧ z1 < v.2 0
  · by_cases p : 0 ≤ z2 ∧ z2 < v.2 4
    · obtain ⟨c, hc⟩ : ∃ c : Nat, z1 = c := ⟨z1.toNat, by omega⟩
      obtain ⟨w, hw⟩ : ∃ w : Nat, z2 = w := ⟨z2.toNat, by omega⟩
      subst hc
      subst hw
      have hcn : c < nn v 0 := by omega
      have hwn : w < nn v 4 := by omega
      obtain ⟨r, hr⟩ : ∃ r : Nat → Int, ∀ z : Nat, MWp v (z : Int) c (r z) := ⟨fun z => (MWp_ex v z c).choose, fun z => (MWp_ex v z c).choose_spec⟩
      obtain ⟨val, v1, v2⟩ : ∃ val : Int, (∀ z, z < 2 ^ nn v 4 → r z = -10000003 → val = -10000003) ∧ ((∀ z, z < 2 ^ nn v 4 → r z ≠ -10000003) → val = shm (nn v 4) w r (2 ^ nn v 4)) := by
        by_cases g : ∃ z, z < 2 ^ nn v 4 ∧ r z = -10000003
        · obtain ⟨z, g1, g2⟩ := g
          exact ⟨-10000003, fun _ _ _ => rfl, fun k => absurd g2 (k z g1)⟩
        · exact ⟨_, fun z g1 g2 => absurd ⟨z, g1, g2⟩ g, fun _ => rfl⟩
      refine q_ok h val (fun μ h => ?_) (fun μ h => ?_)
      · unfold f_X11_share f_X5_shareOf
        refine Rt_bde (hasCell_y (lcN0 h.1.1) q) (Rt_neg (by decide) (Rt_bde (hasWell_y (lcN4 h.1.1) p) (Rt_neg (by decide) (Rt_bd (P := fun r s => r = val ∧ ScOK v μ s) ?_ (fun r s e => Rt_some e)))))
        refine Rt_lt ?_
        rw [lcN4 h.1.1, ← n4]
        refine Rt_loop (fun f z s => k_X5_shareOf_14 f (c : Int) (w : Int) (nn v 4 : Int) z s) _ (2 ^ nn v 4) (fun z s => ScOK v μ s ∧ ∀ y : Nat, y < z → s.1 52 y = r y ∧ r y ≠ -10000003) ?_ ?_ FU 0 μ (Nat.zero_le _) (FU_gt (by omega)) ⟨ScOK.refl h, fun y hy => by omega⟩
        · intro f z s hz ⟨sc, e⟩ hnext
          show Rt (k_X5_shareOf_14 (f + 1) (c : Int) (w : Int) (nn v 4 : Int) (z : Int) s) _
          rw [k_X5_shareOf_14, (gpow _ hn).1]
          refine Rt_pos (Int.ofNat_lt.mpr hz) (Rt_bd (cMW2 (h.sc sc) z hcn) (fun r1 s1 ⟨m1, sc1, e1⟩ => Rt_ck (by omega) (Rt_lm (Rt_ck (by omega) ?_))))
          have er : r1 = r z := MWp_eq (hr z) m1
          have scn := (sc.trans sc1).a52 (i := (z : Int)) (x := r1)
          rw [gA_same]
          refine Rt_if (fun g => Rt_some ⟨(v1 z hz (by rw [← er]; exact g)).symm, scn⟩) (fun g => Rt_lt ?_)
          rw [w32s (by omega)]
          refine hnext _ ⟨scn, fun y hy => ?_⟩
          rw [gA_at]
          by_cases qy : (y : Int) = z
          · have : y = z := by omega
            subst this
            rw [if_pos rfl]; exact ⟨er, by rw [← er]; exact g⟩
          · rw [if_neg qy, e1]; exact e y (by omega)
        · intro f s ⟨sc, e⟩
          show Rt (k_X5_shareOf_14 (f + 1) (c : Int) (w : Int) (nn v 4 : Int) ((2 ^ nn v 4 : Nat) : Int) s) _
          rw [k_X5_shareOf_14, (gpow _ hn).1]
          refine Rt_neg (by omega) (sh63 (r := r) hn hwn ?_ (fun z hz => (e z hz).1) ⟨?_, sc⟩)
          · rw [lcN4 (h.sc sc).1.1, n4]
          · rw [sh_eq _ _ r hn hwn]; exact (v2 (fun z hz => (e z hz).2)).symm
      · obtain ⟨h1, s1⟩ := inv_thr h
        unfold f_X12_share
        refine Rt_lm (Rt_bde (noCell_y (lmN0 h1.1.2.1) (lim0 hv) q) (Rt_pos rfl (Rt_bde (noWell_y (lmN4 h1.1.2.1) (by omega) p) (Rt_pos rfl ?_))))
        refine Rt_loop (σ := Int × GM) (fun f z s => k_X12_share_29 f (c : Int) (w : Int) s.1 z s.2) _ (2 ^ nn v 4) (fun z s => ScOK v μ s.2 ∧ s.1 = shm (nn v 4) w r z ∧ ∀ y : Nat, y < z → r y ≠ -10000003) ?_ ?_ FU 0 (0, gF μ 53 0 0) (Nat.zero_le _) (FU_gt (by omega)) ⟨s1, rfl, fun y hy => by omega⟩
        · intro f z ⟨a, s⟩ hz ⟨sc, ea, e⟩ hnext
          show Rt (k_X12_share_29 (f + 1) (c : Int) (w : Int) a (z : Int) s) _
          have ea : a = shm (nn v 4) w r z := ea
          have i1 := h.sc sc
          rw [k_X12_share_29, lmN4 i1.1.2.1, ← n4, (gpow _ hn).1, gbit z (by omega) w (by omega), pcm z (by omega)]
          refine Rt_pos (Int.ofNat_lt.mpr hz) (Rt_bd (mMW i1 z hcn) (fun r1 s2 ⟨m1, sc1⟩ => ?_))
          have er : r1 = r z := MWp_eq (hr z) m1
          have scn := sc.trans sc1
          have i2 := h.sc scn
          have e18 : s2.2 53 18 = ((nn v 4 : Nat) : Int) := by rw [lmN4 i2.1.2.1, n4]
          refine Rt_if (fun g => Rt_some ⟨(v1 z hz (by rw [← er]; exact g)).symm, scn⟩) (fun g => Rt_lt ?_)
          have nx : ∀ y : Nat, y < z + 1 → r y ≠ -10000003 := fun y hy => by
            by_cases qy : y = z
            · rw [qy, ← er]; exact g
            · exact e y (by omega)
          by_cases qb : z / 2 ^ w % 2 = 0
          · refine Rt_neg (by omega) ?_
            unfold k_X12_share_94
            rw [if_pos rfl, sh110 e18]
            unfold k_X12_share_148
            refine Rt_pos rfl (Rt_lt (Rt_lt ?_))
            rw [w32s (by omega)]
            exact hnext (w32 (a + w32 (wgt (nn v 4) (pcn z) * r1)), s2) ⟨scn, by show w32 (a + w32 (wgt (nn v 4) (pcn z) * r1)) = _; rw [shm, if_pos qb, ← ea, er], nx⟩
          · have pg := pc_ge w (by omega) z (by omega) (by omega)
            have pl := pc_le z (by omega)
            refine Rt_pos (by omega) ?_
            unfold k_X12_share_94
            rw [if_neg (by decide), show w32 (((pcn z : Nat) : Int) - 1) = ((pcn z - 1 : Nat) : Int) by rw [w32i (by omega) (by omega)]; omega, sh110 e18]
            unfold k_X12_share_148
            refine Rt_neg (by decide) (Rt_lt (Rt_lt ?_))
            rw [w32s (by omega)]
            exact hnext (w32 (a + w32 (w32 (-(wgt (nn v 4) (pcn z - 1))) * r1)), s2) ⟨scn, by show w32 (a + w32 (w32 (-(wgt (nn v 4) (pcn z - 1))) * r1)) = _; rw [shm, if_neg qb, ← ea, er], nx⟩
        · intro f ⟨a, s⟩ ⟨sc, ea, e⟩
          show Rt (k_X12_share_29 (f + 1) (c : Int) (w : Int) a ((2 ^ nn v 4 : Nat) : Int) s) _
          have ea : a = shm (nn v 4) w r (2 ^ nn v 4) := ea
          rw [k_X12_share_29, lmN4 (h.sc sc).1.2.1, ← n4, (gpow _ hn).1]
          exact Rt_neg (by omega) (Rt_some ⟨by rw [ea]; exact (v2 e).symm, sc⟩)
    · refine q_ok h (-10000001) (fun μ h => ?_) (fun μ h => ?_)
      · unfold f_X11_share
        exact Rt_bde (hasCell_y (lcN0 h.1.1) q) (Rt_neg (by decide) (Rt_bde (hasWell_n (lcN4 h.1.1) p) (Rt_pos rfl (Rt_some ⟨rfl, ScOK.refl h⟩))))
      · obtain ⟨h1, s1⟩ := inv_thr h
        unfold f_X12_share
        exact Rt_lm (Rt_bde (noCell_y (lmN0 h1.1.2.1) (lim0 hv) q) (Rt_pos rfl (Rt_bde (noWell_n (lmN4 h1.1.2.1) (by omega) p) (Rt_neg (by decide) (Rt_some ⟨rfl, s1⟩)))))
  · refine q_ok h (-10000001) (fun μ h => ?_) (fun μ h => ?_)
    · unfold f_X11_share
      exact Rt_bde (hasCell_n (lcN0 h.1.1) q) (Rt_pos rfl (Rt_some ⟨rfl, ScOK.refl h⟩))
    · obtain ⟨h1, s1⟩ := inv_thr h
      unfold f_X12_share
      exact Rt_lm (Rt_bde (noCell_n (lmN0 h1.1.2.1) (lim0 hv) q) (Rt_neg (by decide) (Rt_some ⟨rfl, s1⟩)))
