/-! spills: the other side -/
def Pm3 : Nat → Prop := fun k => k = 77 ∨ k = 78 ∨ k = 93
def P93 : Nat → Prop := fun k => k = 93
theorem mOut_93 {μ s : GM} {o : OT} (h : mOut μ o) (k : ofr P93 nF μ s) : mOut s o := by
  refine ⟨(k.2 53 31 (fun z => z)).trans h.1, fun i hi => ?_⟩
  rw [k.1 77 (by unfold P93; omega), k.1 78 (by unfold P93; omega)]
  exact h.2 i hi
theorem mhand {v : LV} (hv : wfL v) {p : Int} (hr : isR v p) {μ : GM} {a : Nat} (ha : a < nn v 0) {o : OT} (eo : o = outs v p a) (h : mOut μ o) (h0 : o.1 ≠ 0) {m : Nat} (m1 : m ≤ 1000000) {e d told z : Int} (t0 : 0 ≤ told) (t1 : told + (if 100 ≤ e then arr o m e else 0) ≤ 1000000) (rng : ∀ y : Nat, y < nn v 0 → 0 ≤ μ.1 93 y ∧ μ.1 93 y + arr o m y ≤ 2000000000) {kL : Int → Int → Int → Int → GM → Option (Int × GM)} {Q : Int → GM → Prop}
    (H : ∀ s, ofr P93 nF μ s → (∀ y : Nat, y < nn v 0 → s.1 93 y = if y = a then 0 else μ.1 93 y + arr o m y) → Rt (kL e d (told + (if 100 ≤ e then arr o m e else 0)) (w32 (z + 1)) s) Q) :
    Rt (k_X12_spill_275 kL FU e d told z (a : Int) (sumn o.1 o.2.2) (m : Int) (m : Int) 0 μ) Q := by
  have n0 := nn_c hv 0 (by omega)
  have l6 := n6 hv
  have m0 : (0 : Int) ≤ (m : Int) := by omega
  have hl : o.1 ≤ 20 := by rw [eo]; exact outs_len hv p a
  have ok : oOK (v.2 0) o := by rw [eo]; exact outs_ok hv p a
  have sf : oSf o := by rw [eo]; exact outs_sf hv hr a
  have tf := tot_f hv hr a o.1 (by rw [eo]; exact Nat.le_refl _)
  rw [← eo] at tf
  have T1 := ok.tot h0
  have lf := ok.lf h0 m0
  have an : ∀ t : Int, 0 ≤ arr o m t := fun t => arz_nn (fun i hi => (ok.am m0 hi).2)
  have part : ∀ z, z ≤ o.1 → ∀ t : Int, 0 ≤ arz (amt o m) o z t ∧ arz (amt o m) o z t ≤ arr o m t := fun z hz t => ⟨arz_nn (fun i hi => (ok.am m0 (by omega)).2), arz_pre hz (fun i hi => (ok.am m0 hi).2)⟩
  have shs : ∀ z, z ≤ o.1 → 0 ≤ sumn z (shv o m) ∧ sumn z (shv o m) ≤ m := by
    intro z hz
    have a := sumn_pre (f := shv o m) hz (fun i hi => (ok.sh m0 hi).1)
    have b : 0 ≤ sumn z (shv o m) := sumn_nn (fun i hi => (ok.sh m0 (by omega)).1)
    have c := lf.2
    unfold lft at c
    omega
  have sheq : ∀ (s : GM) (y : Nat), y < o.1 → f_X12_shareOf (m : Int) (o.2.2 y) (sumn o.1 o.2.2) s = some (shv o m y, s) := fun s y hy => mshare0 m1 (by have := sf y hy; omega) (sf y hy).2 (ok.le hy) T1 (by omega)
  obtain ⟨k, hk⟩ := gr_some o.2.2 o.1 (by omega)
  have kl := gr_lt _ _ _ hk
  refine Rt_loop (fun f y (l : Int) => k_X12_spill_275 kL f e d told z (a : Int) (sumn o.1 o.2.2) (m : Int) l y μ) Q o.1 (fun y l => l = m - sumn y (shv o m)) ?_ ?_ FU 0 (m : Int) (by omega) (FU_gt (by omega)) (by show (m : Int) = m - 0; omega)
  · intro f y l hy el hnext
    show Rt (k_X12_spill_275 kL (f + 1) e d told z (a : Int) (sumn o.1 o.2.2) (m : Int) l (y : Int) μ) Q
    have p1 := shs y (by omega)
    have shz := ok.sh m0 hy
    have p2 := shs (y + 1) (by omega)
    have p2' : sumn (y + 1) (shv o m) = sumn y (shv o m) + shv o m y := rfl
    rw [k_X12_spill_275, h.1, (h.2 y hy).2]
    refine Rt_pos (by omega) (Rt_ck (by omega) (Rt_bde (sheq μ y hy) (Rt_lt (Rt_lt ?_))))
    rw [w32s (by omega), el, w32i (by omega) (by omega)]
    exact hnext _ (by omega)
  intro f l el
  show Rt (k_X12_spill_275 kL (f + 1) e d told z (a : Int) (sumn o.1 o.2.2) (m : Int) l (o.1 : Int) μ) Q
  have el : l = lft o m := el
  rw [k_X12_spill_275, h.1, el]
  refine Rt_neg (by omega) ?_
  refine Rt_loop (σ := Int × GM) (fun f y t => k_X12_spill_312 kL f e d t.1 z (a : Int) (sumn o.1 o.2.2) (m : Int) (lft o m) y t.2) Q o.1 (fun y t => t.1 = told + (if 100 ≤ e then arz (amt o m) o y e else 0) ∧ ofr P93 nF μ t.2 ∧ ∀ x : Nat, x < nn v 0 → t.2.1 93 x = μ.1 93 x + arz (amt o m) o y x) ?_ ?_ FU 0 (told, μ) (by omega) (FU_gt (by omega)) ⟨?_, ofr.rfl, fun x hx => ?_⟩
  · intro f y ⟨r, s⟩ hy ⟨i1, i2, i3⟩ hnext
    have i1 : r = told + (if 100 ≤ e then arz (amt o m) o y e else 0) := i1
    have i2 : ofr P93 nF μ s := i2
    have i3 : ∀ x : Nat, x < nn v 0 → s.1 93 x = μ.1 93 x + arz (amt o m) o y x := i3
    show Rt (k_X12_spill_312 kL (f + 1) e d r z (a : Int) (sumn o.1 o.2.2) (m : Int) (lft o m) (y : Int) s) Q
    have mo := mOut_93 h i2
    have shz := ok.sh m0 hy
    have am := ok.am m0 hy
    have at1 := am_tot (o := o) (m := (m : Int)) h0
    have am1 := sumn_mem (f := amt o m) hy (fun i hi => (ok.am m0 hi).2)
    rw [k_X12_spill_312, mo.1, (mo.2 y hy).2]
    refine Rt_pos (by omega) (Rt_ck (by omega) (Rt_bde (sheq s y hy) (Rt_bde (mgreat_eq mo hl) ?_)))
    have tail : ∀ s1 : Int, w32 (shv o m y + s1) = amt o m y → Rt (k_X12_spill_350 kL (k_X12_spill_312 kL f) e d r z (a : Int) (sumn o.1 o.2.2) (m : Int) (lft o m) (y : Int) (shv o m y) s1 s) Q := by
      intro s1 es
      unfold k_X12_spill_350
      refine Rt_lt ?_
      rw [es, (mo.2 y hy).1]
      have ay : ∀ t : Int, arz (amt o m) o (y + 1) t = arz (amt o m) o y t + (if o.2.1 y = t then amt o m y else 0) := fun t => rfl
      have fin : ∀ s', ofr P93 nF s s' → (∀ x : Nat, x < nn v 0 → s'.1 93 x = s.1 93 x + (if o.2.1 y = x then amt o m y else 0)) → Rt (k_X12_spill_382 kL (k_X12_spill_312 kL f) e d r z (a : Int) (sumn o.1 o.2.2) (m : Int) (lft o m) (y : Int) (amt o m y) s') Q := by
        intro s' o' e'
        have mo' := mOut_93 h (i2.trans o')
        have nx : ∀ r', r' = told + (if 100 ≤ e then arz (amt o m) o (y + 1) e else 0) → Rt (k_X12_spill_312 kL f e d r' z (a : Int) (sumn o.1 o.2.2) (m : Int) (lft o m) ((y + 1 : Nat) : Int) s') Q := fun r' er => hnext (r', s') ⟨er, i2.trans o', fun x hx => by
          show s'.1 93 x = _
          rw [e' x hx, i3 x hx, ay]; omega⟩
        unfold k_X12_spill_382
        rw [(mo'.2 y hy).1, w32s (by omega)]
        have pe := part y (by omega) e
        have pe2 := part (y + 1) (by omega) e
        rw [ay] at pe2
        refine Rt_ck (by omega) (Rt_if (fun q => Rt_if (fun q2 => Rt_lt (Rt_lt (nx _ ?_))) (fun q2 => Rt_lt (Rt_lt (nx _ ?_)))) (fun q => Rt_lt (Rt_lt (nx _ ?_))))
        · rw [if_neg (by omega)] at i1 ⊢
          rw [i1, w32i (by omega) (by omega)]; omega
        · rw [if_pos (by omega)] at i1 t1
          rw [if_pos (by omega), ay, if_pos q, i1]
          rw [if_pos q] at pe2
          rw [w32i (by omega) (by omega)]; omega
        · by_cases q2 : 100 ≤ e
          · rw [if_pos q2] at i1 t1
            rw [if_pos q2, ay, if_neg q, i1, w32i (by omega) (by omega)]; omega
          · rw [if_neg q2] at i1
            rw [if_neg q2, i1, w32i (by omega) (by omega)]; omega
      refine Rt_ck (by omega) (Rt_if (fun q => Rt_ck (by omega) ?_) (fun q => fin s ofr.rfl (fun x hx => ?_)))
      · have tg : 0 ≤ o.2.1 y ∧ o.2.1 y < v.2 0 := by
          rcases ok.tgt y hy with g | g
          · exact g
          · omega
        have l0 := hv.1
        refine Rt_ck (by omega) (Rt_ck (by omega) (Rt_lm (fin _ (ofr.rfl.a rfl) (fun x hx => ?_))))
        rw [gA_at]
        by_cases qx : (x : Int) = o.2.1 y
        · have pa := part (y + 1) (by omega) x
          have pb := part y (by omega) x
          have rx := rng x hx
          rw [ay, if_pos qx.symm] at pa
          rw [if_pos qx, if_pos qx.symm, ← qx, i3 x hx, w32i (by omega) (by omega)]
        · rw [if_neg qx, if_neg (fun z => qx z.symm)]; omega
      · rw [if_neg (by omega)]; omega
    have eg : grI o.2.2 o.1 = (k : Int) := by unfold grI; rw [hk]
    rw [eg]
    refine Rt_if (fun q => tail _ ?_) (fun q => tail _ ?_)
    · have q : y = k := by omega
      have ea : amt o m y = shv o m y + lft o m := by unfold amt; rw [hk, q, if_pos rfl]
      rw [← ea, w32i (by omega) (by omega)]
    · have ea : amt o m y = shv o m y + 0 := by
        unfold amt
        rw [hk, if_neg (fun z => by cases z; exact q rfl)]
      rw [← ea, w32i (by omega) (by omega)]
  · intro f ⟨r, s⟩ ⟨i1, i2, i3⟩
    have i1 : r = told + (if 100 ≤ e then arr o m e else 0) := i1
    have i2 : ofr P93 nF μ s := i2
    have i3 : ∀ x : Nat, x < nn v 0 → s.1 93 x = μ.1 93 x + arr o m x := i3
    show Rt (k_X12_spill_312 kL (f + 1) e d r z (a : Int) (sumn o.1 o.2.2) (m : Int) (lft o m) (o.1 : Int) s) Q
    have mo := mOut_93 h i2
    rw [k_X12_spill_312, mo.1, i1]
    refine Rt_neg (by omega) (Rt_ck (by omega) (Rt_lm (Rt_lt (H _ (i2.a rfl) (fun x hx => ?_)))))
    rw [gA_at]
    by_cases q : (x : Int) = (a : Int)
    · rw [if_pos q, if_pos (by omega)]
    · rw [if_neg q, if_neg (by omega)]; exact i3 x hx
  · show told = told + (if 100 ≤ e then 0 else 0)
    split <;> omega
  · show μ.1 93 x = μ.1 93 x + 0
    omega
theorem mparts {v : LV} (hv : wfL v) {p : Int} {μ : GM} (hm : mV 59 70 μ = v) (hve : veq v (mV 72 73 μ)) (ra : restM v μ p) {c : Nat} (hcn : c < nn v 0) {e : Int} (he : (0 ≤ e ∧ e < v.2 0) ∨ 100 ≤ e) : Rt (k_X12_spill_114 FU (c : Int) e 0 μ) (fun r s => r = spv v p e c ∧ ofr Pm3 FGm μ s) := by
  have n0 := nn_c hv 0 (by omega)
  have l0 := hv.1
  have l6 := n6 hv
  have hr := ra.2.2.1
  have w93 : Pm3 93 := by unfold Pm3; omega
  refine Rt_loop (fun f z s => k_X12_spill_114 f (c : Int) e z s) _ 6 (fun z s => ofr Pm3 FGm μ s ∧ ∀ y : Nat, y < z → s.1 93 y = if y = c then 1000000 else 0) ?_ ?_ FU 0 μ (by omega) (FU_gt (by omega)) ⟨ofr.rfl, fun y hy => by omega⟩
  · intro f z s hz ⟨o, i1⟩ hnext
    show Rt (k_X12_spill_114 (f + 1) (c : Int) e (z : Int) s) _
    rw [k_X12_spill_114, w32s (by omega)]
    have st : ∀ x : Int, (x = if z = c then 1000000 else 0) → Rt (k_X12_spill_114 f (c : Int) e ((z + 1 : Nat) : Int) (gA s 93 (z : Int) x)) (fun r s => r = spv v p e c ∧ ofr Pm3 FGm μ s) := fun x hx => hnext _ ⟨o.a w93, fun y hy => by
      rw [gA_at]
      by_cases q : (y : Int) = z
      · have : y = z := by omega
        subst this
        rw [if_pos rfl]; exact hx
      · rw [if_neg q]; exact i1 y (by omega)⟩
    refine Rt_pos (by omega) (Rt_if (fun q => Rt_ck (by omega) (Rt_lm (Rt_lt (st _ ?_)))) (fun q => Rt_ck (by omega) (Rt_lm (Rt_lt (st _ ?_)))))
    · rw [if_pos (by omega)]
    · rw [if_neg (by omega)]
  intro f s0 ⟨o0, i0⟩
  show Rt (k_X12_spill_114 (f + 1) (c : Int) e ((6 : Nat) : Int) s0) _
  rw [k_X12_spill_114]
  refine Rt_neg (by omega) ?_
  refine Rt_loop (σ := Int × Int × GM) (fun f z t => k_X12_spill_156 f e t.1 t.2.1 z t.2.2) _ (nn v 0) (fun z t => t.1 = ((runS v p e c z).1 : Int) ∧ t.2.1 = (runS v p e c z).2.2 ∧ ofr Pm3 FGm μ t.2.2 ∧ ∀ y : Nat, y < nn v 0 → t.2.2.1 93 y = (runS v p e c z).2.1 y) ?_ ?_ FU 0 (0, 0, s0) (by omega) (FU_gt (by omega)) ⟨rfl, rfl, o0, fun y hy => i0 y (by omega)⟩
  · intro f z ⟨d, told, s⟩ hz ⟨i1, i2, i3, i4⟩ hnext
    obtain ⟨S, hS⟩ : ∃ S, S = runS v p e c z := ⟨_, rfl⟩
    have nxt : runS v p e c (z + 1) = stepS v p e S := by rw [hS]; rfl
    have sp := run_ok hv (p := p) (e := e) hcn z (by omega)
    rw [← hS] at i1 i2 i4 sp
    have i1 : d = (S.1 : Int) := i1
    have i2 : told = S.2.2 := i2
    have i3 : ofr Pm3 FGm μ s := i3
    have i4 : ∀ y : Nat, y < nn v 0 → s.1 93 y = S.2.1 y := i4
    obtain ⟨a, h1, h2, h3, h4, h5, h6⟩ := step_ok hv (e := e) sp hz
    rw [← nxt] at h4 h5
    have tl := two_le (nn v 0) (by omega)
    have sd := sp.d
    have km : mV 59 70 s = v := by rw [mV_keepv i3 (fun k h1 h2 => by unfold Pm3; omega) (fun j h1 h2 => by unfold FGm; omega) (by omega) (by omega)]; exact hm
    have kv : veq v (mV 72 73 s) := by rw [mV_keepv i3 (fun k h1 h2 => by unfold Pm3; omega) (fun j h1 h2 => by unfold FGm; omega) (by omega) (by omega)]; exact hve
    have kr : restM v s p := rest_keepM ra i3 (by unfold Pm3; omega) (by unfold FGm; omega) (by unfold FGm; omega)
    show Rt (k_X12_spill_156 (f + 1) e d told (z : Int) s) _
    rw [k_X12_spill_156, lmN0 km, i1, i2]
    refine Rt_pos (by omega) ?_
    refine Rt_loop (fun g y (q : Int) => k_X12_spill_172 (k_X12_spill_156 f) g e (S.1 : Int) S.2.2 (z : Int) q y s) _ (nn v 0) (fun y q => q = hbI (upv v p) S.1 y) ?_ ?_ FU 0 (-10000009) (by omega) (FU_gt (by omega)) rfl
    · intro g y q hy eq hn2
      show Rt (k_X12_spill_172 (k_X12_spill_156 f) (g + 1) e (S.1 : Int) S.2.2 (z : Int) q (y : Int) s) _
      rw [k_X12_spill_172, lmN0 km, gbitn (by omega) (by omega)]
      refine Rt_pos (by omega) ?_
      by_cases qb : S.1 / 2 ^ y % 2 = 0
      · refine Rt_pos (by rw [qb]; rfl) ?_
        cases eh : hb (upv v p) S.1 y with
        | none =>
          have eg : q = -10000009 := by rw [eq]; unfold hbI; rw [eh]
          refine Rt_pos eg (Rt_lt ?_)
          rw [w32s (by omega)]
          refine hn2 _ ?_
          unfold hbI hb
          rw [if_pos qb, eh]
        | some k =>
          have eg : q = (k : Int) := by rw [eq]; unfold hbI; rw [eh]
          have kl := (hb_some _ _ _ _ eh).1
          refine Rt_neg (by omega) (Rt_ck (by omega) (Rt_ck (by omega) ?_))
          rw [eg, kr.2.2.2.2.2 k (by omega), kr.2.2.2.2.2 y hy]
          refine Rt_if (fun g => Rt_lt ?_) (fun g => Rt_lt ?_)
          · rw [w32s (by omega)]
            refine hn2 _ ?_
            unfold hbI hb
            rw [if_pos qb, eh]
            dsimp only
            rw [if_pos g]
          · rw [w32s (by omega)]
            refine hn2 _ ?_
            unfold hbI hb
            rw [if_pos qb, eh]
            dsimp only
            rw [if_neg g]
      · refine Rt_neg (fun z => qb (by omega)) (Rt_lt ?_)
        rw [w32s (by omega)]
        refine hn2 _ ?_
        rw [eq]
        unfold hbI
        rw [show hb (upv v p) S.1 (y + 1) = hb (upv v p) S.1 y by rw [hb, if_neg qb]]
    · intro g q eq
      show Rt (k_X12_spill_172 (k_X12_spill_156 f) (g + 1) e (S.1 : Int) S.2.2 (z : Int) q ((nn v 0 : Nat) : Int) s) _
      have eq : q = (a : Int) := by rw [eq]; unfold hbI; rw [h1]
      rw [k_X12_spill_172, lmN0 km, eq]
      refine Rt_neg (by omega) (Rt_lt ?_)
      rw [bt_or a (by omega) S.1 (by omega) h3]
      refine Rt_bd (open_spec hv kv km kr a) (fun _ s2 ⟨o2, h7⟩ => ?_)
      have o3 : ofr Pm3 FGm μ s2 := i3.trans (o2.mono (fun k hk => by unfold PGm at hk; unfold Pm3; omega) (fun _ _ z => z))
      have e93 : s2.1 93 = s.1 93 := o2.1 93 (by unfold PGm; omega)
      have sd1 : (runS v p e c (z + 1)).1 = S.1 + 2 ^ a := by rw [h4]
      rw [h7.1]
      by_cases qo : (outs v p a).1 = 0
      · simp only [if_pos qo] at h4
        refine Rt_neg (by omega) (Rt_lt ?_)
        rw [w32s (by omega)]
        refine hnext (((S.1 + 2 ^ a : Nat) : Int), S.2.2, s2) ⟨?_, ?_, o3, fun y hy => ?_⟩
        · show ((S.1 + 2 ^ a : Nat) : Int) = _
          rw [sd1]
        · show S.2.2 = _
          rw [h4]
        · show s2.1 93 y = _
          rw [e93, i4 y hy, h4]
      · simp only [if_neg qo] at h4
        refine Rt_pos (by omega) (Rt_bd (maf_eq hv hr h7) (fun T s3 ⟨eT, es⟩ => Rt_ck (by omega) (Rt_lt ?_)))
        subst es
        have m0 := sp.pos a h2
        have m1 := sp.all a h2
        obtain ⟨m, hm2⟩ : ∃ m : Nat, S.2.1 a = (m : Int) := ⟨(S.2.1 a).toNat, by omega⟩
        have em : s3.1 93 (a : Int) = (m : Int) := by rw [e93, i4 a h2]; exact hm2
        rw [em, eT]
        rw [hm2] at h4 m1
        have az : arr (outs v p a) m a = 0 := ar_low hv p a h2 (Int.le_refl _)
        have P' : ∀ y, y ≠ a → (runS v p e c (z + 1)).2.1 y = S.2.1 y + arr (outs v p a) m y := fun y hy => by rw [h4]; exact if_neg hy
        have R' : (runS v p e c (z + 1)).2.2 = S.2.2 + (if 100 ≤ e then arr (outs v p a) m e else 0) := by rw [h4]
        have us : 0 ≤ usum (nn v 0) (runS v p e c (z + 1)) := sumn_nn (fun t ht => by
          have := h5.pos t ht
          split <;> omega)
        have sm := h5.sum
        refine mhand hv hr h2 rfl h7 qo (by omega) sp.r0 (by rw [← R']; omega) (fun y hy => ?_) (fun s4 o4 e4 => ?_)
        · rw [e93, i4 y hy]
          refine ⟨sp.pos y hy, ?_⟩
          by_cases qy : y = a
          · rw [qy, az]; have := sp.all a h2; omega
          · rw [← P' y qy]; have := h5.all y hy; omega
        · rw [w32s (by omega)]
          refine hnext (((S.1 + 2 ^ a : Nat) : Int), S.2.2 + (if 100 ≤ e then arr (outs v p a) m e else 0), s4) ⟨?_, R'.symm, o3.trans (o4.mono (fun k hk => by unfold P93 at hk; unfold Pm3; omega) (fun _ _ z => z.elim)), fun y hy => ?_⟩
          · show ((S.1 + 2 ^ a : Nat) : Int) = _
            rw [sd1]
          · show s4.1 93 y = _
            rw [e4 y hy, e93, i4 y hy, h4]
  · intro f ⟨d, told, s⟩ ⟨i1, i2, i3, i4⟩
    have i2 : told = (runS v p e c (nn v 0)).2.2 := i2
    have i3 : ofr Pm3 FGm μ s := i3
    have i4 : ∀ y : Nat, y < nn v 0 → s.1 93 y = (runS v p e c (nn v 0)).2.1 y := i4
    have km : mV 59 70 s = v := by rw [mV_keepv i3 (fun k h1 h2 => by unfold Pm3; omega) (fun j h1 h2 => by unfold FGm; omega) (by omega) (by omega)]; exact hm
    show Rt (k_X12_spill_156 (f + 1) e d told ((nn v 0 : Nat) : Int) s) _
    rw [k_X12_spill_156, lmN0 km]
    refine Rt_neg (by omega) ?_
    unfold spv
    refine Rt_if (fun q => Rt_ck (by omega) (Rt_some ⟨?_, i3⟩)) (fun q => Rt_some ⟨?_, i3⟩)
    · rw [if_neg (by omega), ← i4 e.toNat (by omega), show ((e.toNat : Nat) : Int) = e by omega]
    · rw [if_pos (by omega), i2]
