/-! worlds that are left -/
def ab (z : Int) : Int := if z < 0 then w32 (-z) else z
def agr (μ : GM) (x : Int) (c : Nat) : Prop := μ.1 35 (c : Int) < 0 ∨ ab (w32 (x - μ.1 34 (c : Int))) ≤ μ.1 35 (c : Int)
def Lft (v : LV) (μ : GM) (w : Nat) : Prop := hasR (wld v μ w) ∧ ∀ c, c < nn v 0 → agr μ (wM (wld v μ w) c) c
def RowC (v : LV) (μ s : GM) (z : Nat) : Prop := ∀ j, j < z → Lft v μ j → ∀ c : Nat, c < nn v 0 → s.1 (37 + j) (c : Int) = wM (wld v μ j) c
def RowM (v : LV) (μ s : GM) (z : Nat) : Prop := ∀ j, j < z → Lft v μ j → ∀ c : Nat, c < nn v 0 → s.1 87 (ix j c) = wM (wld v μ j) c
def setL (v : LV) (μ : GM) (T : Int) (z : Nat) : Prop := sR T ∧ ∀ j, j < 6 → (bt T j ↔ j < z ∧ Lft v μ j)
theorem setL_no {v : LV} {μ : GM} {T : Int} {z : Nat} (h : setL v μ T z) (hn : ¬ Lft v μ z) : setL v μ T (z + 1) := by
  refine ⟨h.1, fun j hj => (h.2 j hj).trans ⟨fun a => ⟨by omega, a.2⟩, fun a => ⟨?_, a.2⟩⟩⟩
  by_cases e : j = z
  · subst e; exact absurd a.2 hn
  · omega
theorem setL_yes {v : LV} {μ : GM} {T : Int} {z : Nat} (h : setL v μ T z) (hz : z < 6) (hy : Lft v μ z) : setL v μ (gor T (gshl 1 (z : Int))) (z + 1) := by
  have so := s_or h.1 hz
  refine ⟨so.1, fun j hj => (so.2 j hj).trans ?_⟩
  rw [h.2 j hj]
  constructor
  · rintro (a | a)
    · exact ⟨by omega, a.2⟩
    · subst a; exact ⟨by omega, hy⟩
  · intro a
    by_cases e : j = z
    · exact Or.inr e
    · exact Or.inl ⟨by omega, a.2⟩
theorem sc_arr {v : LV} {μ s : GM} (h : ScOK v μ s) : s.1 32 = μ.1 32 ∧ s.1 33 = μ.1 33 ∧ s.1 34 = μ.1 34 ∧ s.1 35 = μ.1 35 ∧ s.2 31 2 = μ.2 31 2 := ⟨h.1.1 32 (by unfold PSc; omega), h.1.1 33 (by unfold PSc; omega), h.1.1 34 (by unfold PSc; omega), h.1.1 35 (by unfold PSc; omega), h.1.2 31 2 (by unfold FSc; omega)⟩
theorem wld_k {v : LV} {μ s : GM} (h : ScOK v μ s) (w : Nat) : wld v s w = wld v μ w := by unfold wld; rw [(sc_arr h).1, (sc_arr h).2.1]
theorem Lft_k {v : LV} {μ s : GM} (h : ScOK v μ s) (w : Nat) : Lft v s w = Lft v μ w := by unfold Lft agr; rw [wld_k h, (sc_arr h).2.2.1, (sc_arr h).2.2.2.1]
theorem agrees_spec {v : LV} {μ s : GM} (h : InvV v μ) (sc : ScOK v μ s) {w : Nat} (hw : (w : Int) < μ.2 31 2) {p : Int} (hp : restAt (wld v μ w) 132 s p) : Rt (f_X10_agrees (w : Int) s) (fun r s' => ofr (fun k => k = 37 + w) nF s s' ∧ (∀ c : Nat, c < nn v 0 → s'.1 (37 + w) (c : Int) = wM (wld v μ w) c) ∧ ((r = 1 ∧ Lft v μ w) ∨ (r = 0 ∧ ¬ Lft v μ w))) := by
  have hv := h.1.2.2.1
  have n0 := nn_c hv 0 (by omega)
  have l0 := hv.1
  have w5 := h.2.2.2.2.1.2.1
  have hu := wld_wf h hw
  have is := h.sc sc
  obtain ⟨a1, a2, a3, a4, a5⟩ := sc_arr sc
  have hR : hasR (wld v μ w) := ⟨hp.1, p, hp.2.1, hp.2.2.1⟩
  unfold f_X10_agrees
  refine Rt_loop (fun f z (q : Int × GM) => k_X10_agrees_4 f (w : Int) q.1 z q.2) _ (nn v 0) (fun z q => ofr (fun k => k = 37 + w) nF s q.2 ∧ (∀ c : Nat, c < z → q.2.1 (37 + w) (c : Int) = wM (wld v μ w) c) ∧ ((q.1 = 1 ∧ ∀ c, c < z → agr μ (wM (wld v μ w) c) c) ∨ (q.1 = 0 ∧ ¬ Lft v μ w))) ?_ ?_ FU 0 (1, s) (by omega) (FU_gt (by omega)) ⟨ofr.rfl, fun c hc => by omega, Or.inl ⟨rfl, fun c hc => by omega⟩⟩
  · intro f z q hz ⟨o, hrow, hor⟩ hnext
    obtain ⟨q1, q2⟩ := q
    have o' : ofr (fun k => k = 37 + w) nF s q2 := o
    have hrow' : ∀ c : Nat, c < z → q2.1 (37 + w) (c : Int) = wM (wld v μ w) c := hrow
    have cs : cV 22 q2 = v := (cV_keep o' (fun k hk => by omega) (fun _ _ _ z => z) (by omega)).trans is.1.1
    have rp : restAt (wld v μ w) 132 q2 p := ⟨hp.1, hp.2.1, hp.2.2.1, (o'.2 132 7 (fun z => z)).trans hp.2.2.2.1, (o'.2 132 8 (fun z => z)).trans hp.2.2.2.2.1, fun c hc => by rw [o'.1 _ (by omega)]; exact hp.2.2.2.2.2 c hc⟩
    show Rt (k_X10_agrees_4 (f + 1) (w : Int) q1 (z : Int) q2) _
    rw [k_X10_agrees_4, lcN0 cs, Int.toNat_natCast]
    refine Rt_pos (by omega) (Rt_bde (wM_of hu.1 rp (show z < nn (wld v μ w) 0 from hz)) (Rt_ck (by omega) (Rt_ck (by omega) (Rt_lm ?_))))
    obtain ⟨s3, hs3⟩ : ∃ s3, s3 = gA q2 (37 + w) (z : Int) (wM (wld v μ w) z) := ⟨_, rfl⟩
    rw [← hs3]
    have o3 : ofr (fun k => k = 37 + w) nF s s3 := by rw [hs3]; exact o'.a rfl
    have r3 : ∀ c : Nat, c < z + 1 → s3.1 (37 + w) (c : Int) = wM (wld v μ w) c := fun c hc => by
      rw [hs3, gA_at]
      by_cases e : (c : Int) = (z : Int)
      · rw [if_pos e, show c = z by omega]
      · rw [if_neg e]; exact hrow' c (by omega)
    have e35 : s3.1 35 = μ.1 35 := by rw [o3.1 35 (by omega), a4]
    have e34 : s3.1 34 = μ.1 34 := by rw [o3.1 34 (by omega), a3]
    have yes : agr μ (wM (wld v μ w) z) z → Rt (k_X10_agrees_4 f (w : Int) q1 ((z + 1 : Nat) : Int) s3) (fun r s' => ofr (fun k => k = 37 + w) nF s s' ∧ (∀ c : Nat, c < nn v 0 → s'.1 (37 + w) (c : Int) = wM (wld v μ w) c) ∧ ((r = 1 ∧ Lft v μ w) ∨ (r = 0 ∧ ¬ Lft v μ w))) := fun ha => by
      refine hnext (q1, s3) ⟨o3, r3, hor.imp (fun a => ⟨a.1, fun c hc => ?_⟩) id⟩
      by_cases e : c = z
      · subst e; exact ha
      · exact a.2 c (by omega)
    by_cases q35 : s3.1 35 (z : Int) < 0
    · have ei : f_X10_isSeen (z : Int) s3 = some (0, s3) := by unfold f_X10_isSeen; rw [ck_pos (by omega), if_pos q35]; rfl
      refine Rt_bde ei (Rt_pos rfl (Rt_lt ?_))
      rw [w32s (by omega)]
      exact yes (Or.inl (by rw [← e35]; exact q35))
    · have ei : f_X10_isSeen (z : Int) s3 = some (1, s3) := by unfold f_X10_isSeen; rw [ck_pos (by omega), if_neg q35]; rfl
      have ea : f_J9_abs_0f7a4 (w32 (wM (wld v μ w) z - s3.1 34 (z : Int))) s3 = some (ab (w32 (wM (wld v μ w) z - s3.1 34 (z : Int))), s3) := by unfold f_J9_abs_0f7a4 ab; split <;> rfl
      refine Rt_bde ei (Rt_neg (by decide) (Rt_ck (by omega) (Rt_bde ea (Rt_ck (by omega) (Rt_if (fun g => Rt_lt ?_) (fun g => Rt_lt ?_))))))
      · rw [w32s (by omega)]
        refine hnext (0, s3) ⟨o3, r3, Or.inr ⟨rfl, fun hl => ?_⟩⟩
        have := hl.2 z hz
        rw [e35] at g q35
        rw [e34] at g
        rcases this with b | b <;> omega
      · rw [w32s (by omega)]
        refine yes (Or.inr ?_)
        rw [e35, e34] at g
        omega
  · intro f q ⟨o, hrow, hor⟩
    obtain ⟨q1, q2⟩ := q
    have o' : ofr (fun k => k = 37 + w) nF s q2 := o
    have cs : cV 22 q2 = v := (cV_keep o' (fun k hk => by omega) (fun _ _ _ z => z) (by omega)).trans is.1.1
    show Rt (k_X10_agrees_4 (f + 1) (w : Int) q1 (nn v 0 : Int) q2) _
    rw [k_X10_agrees_4, lcN0 cs]
    refine Rt_neg (by omega) (Rt_some ⟨o, hrow, ?_⟩)
    rcases hor with ⟨a, b⟩ | ⟨a, b⟩
    · have a' : q1 = 1 := a
      subst a'
      exact Or.inl ⟨rfl, hR, b⟩
    · have a' : q1 = 0 := a
      subst a'
      exact Or.inr ⟨rfl, b⟩
theorem left_spec {v : LV} {μ : GM} (h : InvV v μ) {N : Nat} (hN : μ.2 31 2 = N) : Rt (f_X10_thatAreLeft μ) (fun r s => ScOK v μ s ∧ setL v μ r N ∧ RowC v μ s N) := by
  have w5 := h.2.2.2.2.1.2.1
  have hN5 : N ≤ 5 := by omega
  unfold f_X10_thatAreLeft
  refine Rt_loop (fun f z (q : Int × GM) => k_X10_thatAreLeft_4 f q.1 z q.2) _ N (fun z q => ScOK v μ q.2 ∧ setL v μ q.1 z ∧ RowC v μ q.2 z) ?_ ?_ FU 0 (0, μ) (by omega) (FU_gt (by omega)) ⟨ScOK.refl h, ⟨⟨show (0 : Int) ≤ 0 by decide, show (0 : Int) < 64 by decide⟩, fun j hj => ⟨fun b => absurd b (zb5 ⟨j, hj⟩), fun b => by omega⟩⟩, fun j hj => by omega⟩
  · intro f z q hz ⟨sc, hs, hr⟩ hnext
    obtain ⟨T, s⟩ := q
    have sc' : ScOK v μ s := sc
    have is := h.sc sc'
    have hr' : RowC v μ s z := hr
    obtain ⟨a1, a2, a3, a4, a5⟩ := sc_arr sc'
    show Rt (k_X10_thatAreLeft_4 (f + 1) T (z : Int) s) _
    rw [k_X10_thatAreLeft_4, a5, hN]
    refine Rt_pos (by omega) (Rt_bd (settleIn_spec is (w := z) (by rw [a5, hN]; omega)) (fun r s2 ⟨t2, t3, ho⟩ => ?_))
    have sc2 := sc'.trans t2
    rw [wld_k sc'] at ho
    have row2 : RowC v μ s2 z := fun j hj hl c hc => by rw [t3 (37 + j) (by omega) (by omega)]; exact hr' j hj hl c hc
    rcases ho with ⟨r1, p, hp⟩ | ⟨r0, hn⟩
    · refine Rt_neg (by omega) (Rt_bd (agrees_spec h sc2 (w := z) (by omega) hp) (fun r2 s3 ⟨o3, g3, ho3⟩ => ?_))
      have sc3 : ScOK v μ s3 := by
        have i2 := h.sc sc2
        refine sc2.trans ⟨o3.mono (fun k hk => by unfold PSc; omega) (fun _ _ z => z.elim), ?_, ?_, ?_⟩
        · exact cache_keep i2.2.1.2.1 (o3.1 _ (by omega)) (o3.1 _ (by omega)) (fun z _ => o3.1 _ (by omega))
        · rw [o3.2 94 8 (fun z => z)]; exact i2.2.1.2.2
        · rw [o3.2 132 8 (fun z => z)]; exact i2.2.2.1.2
      have row3 : RowC v μ s3 (z + 1) := fun j hj hl c hc => by
        by_cases e : j = z
        · subst e; exact g3 c hc
        · rw [o3.1 (37 + j) (by omega)]; exact row2 j (by omega) hl c hc
      rcases ho3 with ⟨x1, hl⟩ | ⟨x0, hl⟩
      · refine Rt_neg (by omega) (Rt_lt (Rt_lt ?_))
        rw [w32s (by omega)]
        exact hnext (_, s3) ⟨sc3, setL_yes hs (by omega) hl, row3⟩
      · refine Rt_pos x0 (Rt_lt ?_)
        rw [w32s (by omega)]
        exact hnext (T, s3) ⟨sc3, setL_no hs hl, row3⟩
    · refine Rt_pos r0 (Rt_lt ?_)
      rw [w32s (by omega)]
      refine hnext (T, s2) ⟨sc2, setL_no hs (fun hl => hn hl.1), fun j hj hl c hc => ?_⟩
      by_cases e : j = z
      · subst e; exact absurd hl.1 hn
      · exact row2 j (by omega) hl c hc
  · intro f q ⟨sc, hs, hr⟩
    obtain ⟨T, s⟩ := q
    have sc' : ScOK v μ s := sc
    show Rt (k_X10_thatAreLeft_4 (f + 1) T (N : Int) s) _
    rw [k_X10_thatAreLeft_4, (sc_arr sc').2.2.2.2, hN]
    exact Rt_neg (by omega) (Rt_some ⟨sc, hs, hr⟩)
theorem mleft_spec {v : LV} {μ : GM} (h : InvV v μ) {N : Nat} (hN : μ.2 31 2 = N) : Rt (f_X12_leftOf μ) (fun r s => ofr PM FM μ s ∧ setL v μ r N ∧ RowM v μ s N) := by
  have hv := h.1.2.2.1
  have n0 := nn_c hv 0 (by omega)
  have l0 := hv.1
  have w5 := h.2.2.2.2.1.2.1
  have hN5 : N ≤ 5 := by omega
  have si := h.2.2.2.2.2.1
  have scm : ∀ s, ofr PM FM μ s → ScOK v μ s := fun s o => (ScOK.refl h).m o
  unfold f_X12_leftOf
  refine Rt_loop (fun f z (q : Int × GM) => k_X12_leftOf_4 f q.1 z q.2) _ N (fun z q => ofr PM FM μ q.2 ∧ setL v μ q.1 z ∧ RowM v μ q.2 z) ?_ ?_ FU 0 (0, μ) (by omega) (FU_gt (by omega)) ⟨ofr.rfl, ⟨⟨show (0 : Int) ≤ 0 by decide, show (0 : Int) < 64 by decide⟩, fun j hj => ⟨fun b => absurd b (zb5 ⟨j, hj⟩), fun b => by omega⟩⟩, fun j hj => by omega⟩
  · intro f w q hw ⟨o, hs, hr⟩ hnext
    obtain ⟨T, s⟩ := q
    have o' : ofr PM FM μ s := o
    have hs' : setL v μ T w := hs
    have hr' : RowM v μ s w := hr
    have sc' := scm s o'
    have is := h.sc sc'
    obtain ⟨a1, a2, a3, a4, a5⟩ := sc_arr sc'
    have e37 : s.2 53 37 = N := by rw [← is.2.2.2.2.1.1, a5, hN]
    have hu := wld_wf h (w := w) (by omega)
    show Rt (k_X12_leftOf_4 (f + 1) T (w : Int) s) _
    rw [k_X12_leftOf_4, e37]
    refine Rt_pos (by omega) (Rt_bd (restsIn_spec is (w := w) (by rw [a5, hN]; omega)) (fun r s2 ⟨t2, t3, ho⟩ => ?_))
    rw [wld_k sc'] at ho
    have o2 := o'.trans t2
    have row2 : RowM v μ s2 w := fun j hj hl c hc => by rw [t3]; exact hr' j hj hl c hc
    have no : ∀ s3 : GM, ofr PM FM μ s3 → RowM v μ s3 w → ¬ Lft v μ w → Rt (k_X12_leftOf_118 (k_X12_leftOf_4 f) T (w : Int) 0 s3) (fun r s => ofr PM FM μ s ∧ setL v μ r N ∧ RowM v μ s N) := fun s3 q1 q2 q3 => by
      unfold k_X12_leftOf_118
      refine Rt_pos rfl (Rt_lt (Rt_lt ?_))
      rw [w32s (by omega), s_or0 hs'.1]
      refine hnext (T, s3) ⟨q1, setL_no hs' q3, fun j hj hl c hc => ?_⟩
      by_cases e : j = w
      · subst e; exact absurd hl q3
      · exact q2 j (by omega) hl c hc
    rcases ho with ⟨r1, p, hp⟩ | ⟨r0, hn⟩
    · subst r1
      have hR : hasR (wld v μ w) := ⟨hp.1, p, hp.2.1, hp.2.2.1⟩
      refine Rt_loop (fun f' z (q : Int × GM) => k_X12_leftOf_21 (k_X12_leftOf_4 f) f' T (w : Int) q.1 z q.2) _ (nn v 0) (fun z q => ofr (fun k => k = 87) nF s2 q.2 ∧ RowM v μ q.2 w ∧ ((q.1 = 1 ∧ (∀ c, c < z → agr μ (wM (wld v μ w) c) c) ∧ ∀ c : Nat, c < z → q.2.1 87 (ix w c) = wM (wld v μ w) c) ∨ (q.1 = 0 ∧ ¬ Lft v μ w))) ?_ ?_ FU 0 (1, s2) (by omega) (FU_gt (by omega)) ⟨ofr.rfl, row2, Or.inl ⟨rfl, fun c hc => by omega, fun c hc => by omega⟩⟩
      · intro f2 z q hz ⟨oq, hrow, hor⟩ hnext2
        obtain ⟨q1, s3⟩ := q
        have oq' : ofr (fun k => k = 87) nF s2 s3 := oq
        have hrow' : RowM v μ s3 w := hrow
        have o3 : ofr PM FM μ s3 := o2.trans (oq'.mono (fun k hk => by unfold PM; omega) (fun _ _ z => z.elim))
        have i3 := h.sc (scm s3 o3)
        show Rt (k_X12_leftOf_21 (k_X12_leftOf_4 f) (f2 + 1) T (w : Int) q1 (z : Int) s3) _
        rw [k_X12_leftOf_21, lmN0 i3.1.2.1]
        refine Rt_pos (by omega) ?_
        rcases hor with ⟨b1, b2, b3⟩ | ⟨b1, b2⟩
        · have b1' : q1 = 1 := b1
          subst b1'
          have b3' : ∀ c : Nat, c < z → s3.1 87 (ix w c) = wM (wld v μ w) c := b3
          have rp : restM (wld v μ w) s3 p := rest_keepM hp oq' (by omega) (fun z => z) (fun z => z)
          refine Rt_neg (by decide) (Rt_ck (by omega) (Rt_bde (wM_m hu.1 rp (show z < nn (wld v μ w) 0 from hz)) ?_))
          rw [w32_6 (i := w) (j := z) (by omega) (by omega)]
          refine Rt_ck (by unfold ix; omega) (Rt_lm (Rt_ck (by omega) (Rt_lt (Rt_ck (by omega) ?_))))
          obtain ⟨s4, hs4⟩ : ∃ s4, s4 = gA s3 87 (ix w z) (wM (wld v μ w) z) := ⟨_, rfl⟩
          rw [← hs4]
          have o4 : ofr (fun k => k = 87) nF s2 s4 := by rw [hs4]; exact oq'.a rfl
          have row4 : RowM v μ s4 w := fun j hj hl c hc => by
            have n6' := n6 hv
            rw [hs4, gA_ni _ _ _ (fun e => by have := (ix_inj (by omega) (by omega) e).1; omega)]; exact hrow' j hj hl c hc
          have r4 : ∀ c : Nat, c < z + 1 → s4.1 87 (ix w c) = wM (wld v μ w) c := fun c hc => by
            have n6' := n6 hv
            rw [hs4, gA_at]
            by_cases e : ix w c = ix w z
            · have := (ix_inj (by omega) (by omega) e).2
              rw [if_pos e, this]
            · have e2 : c ≠ z := fun e3 => e (by rw [e3])
              rw [if_neg e]; exact b3' c (by omega)
          have o40 : ofr PM FM μ s4 := o2.trans (o4.mono (fun k hk => by unfold PM; omega) (fun _ _ z => z.elim))
          have e84 : s4.1 84 = μ.1 84 := o40.1 84 (by unfold PM; omega)
          have e85 : s4.1 85 = μ.1 34 := by rw [o40.1 85 (by unfold PM; omega), si.1]
          have e86 : s4.1 86 = μ.1 86 := o40.1 86 (by unfold PM; omega)
          have sz := (si.2 (z : Int)).2
          have yes : agr μ (wM (wld v μ w) z) z → Rt (k_X12_leftOf_21 (k_X12_leftOf_4 f) f2 T (w : Int) 1 (w32 ((z : Int) + 1)) s4) (fun r s => ofr PM FM μ s ∧ setL v μ r N ∧ RowM v μ s N) := fun ha => by
            rw [w32s (by omega)]
            refine hnext2 (1, s4) ⟨o4, row4, Or.inl ⟨rfl, fun c hc => ?_, r4⟩⟩
            by_cases e : c = z
            · subst e; exact ha
            · exact b2 c (by omega)
          have nay : ¬ agr μ (wM (wld v μ w) z) z → Rt (k_X12_leftOf_21 (k_X12_leftOf_4 f) f2 T (w : Int) 0 (w32 ((z : Int) + 1)) s4) (fun r s => ofr PM FM μ s ∧ setL v μ r N ∧ RowM v μ s N) := fun ha => by
            rw [w32s (by omega)]
            exact hnext2 (0, s4) ⟨o4, row4, Or.inr ⟨rfl, fun hl => ha (hl.2 z hz)⟩⟩
          rw [e84, e85]
          by_cases q84 : μ.1 84 (z : Int) = 0
          · refine Rt_pos q84 (Rt_lt (yes (Or.inl (by omega))))
          · refine Rt_neg q84 ?_
            have e35 : μ.1 86 (z : Int) = μ.1 35 (z : Int) ∧ ¬ μ.1 35 (z : Int) < 0 := by omega
            have core : ∀ d, d = ab (w32 (wM (wld v μ w) z - μ.1 34 (z : Int))) → Rt (k_X12_leftOf_96 (k_X12_leftOf_4 f) (k_X12_leftOf_21 (k_X12_leftOf_4 f) f2) T (w : Int) (z : Int) d s4) (fun r s => ofr PM FM μ s ∧ setL v μ r N ∧ RowM v μ s N) := fun d hd => by
              unfold k_X12_leftOf_96
              rw [e86, e35.1]
              refine Rt_ck (by omega) (Rt_if (fun g => Rt_lt (nay (fun ha => ?_))) (fun g => Rt_lt (yes (Or.inr ?_))))
              · rcases ha with b | b
                · exact e35.2 b
                · omega
              · omega
            refine Rt_if (fun g => core _ ?_) (fun g => core _ ?_)
            · unfold ab; rw [if_pos g]
            · unfold ab; rw [if_neg g]
        · have b1' : q1 = 0 := b1
          subst b1'
          exact Rt_pos rfl (no s3 o3 hrow' b2)
      · intro f2 q ⟨oq, hrow, hor⟩
        obtain ⟨q1, s3⟩ := q
        have oq' : ofr (fun k => k = 87) nF s2 s3 := oq
        have hrow' : RowM v μ s3 w := hrow
        have o3 : ofr PM FM μ s3 := o2.trans (oq'.mono (fun k hk => by unfold PM; omega) (fun _ _ z => z.elim))
        have i3 := h.sc (scm s3 o3)
        show Rt (k_X12_leftOf_21 (k_X12_leftOf_4 f) (f2 + 1) T (w : Int) q1 (nn v 0 : Int) s3) _
        rw [k_X12_leftOf_21, lmN0 i3.1.2.1]
        refine Rt_neg (by omega) ?_
        rcases hor with ⟨b1, b2, b3⟩ | ⟨b1, b2⟩
        · have b1' : q1 = 1 := b1
          subst b1'
          unfold k_X12_leftOf_118
          refine Rt_neg (by decide) (Rt_lt (Rt_lt ?_))
          rw [w32s (by omega)]
          refine hnext (_, s3) ⟨o3, setL_yes hs' (by omega) ⟨hR, b2⟩, fun j hj hl c hc => ?_⟩
          by_cases e : j = w
          · subst e; exact b3 c hc
          · exact hrow' j (by omega) hl c hc
        · have b1' : q1 = 0 := b1
          subst b1'
          exact no s3 o3 hrow' b2
    · subst r0
      have i2 := h.sc (scm s2 o2)
      show Rt (k_X12_leftOf_21 (k_X12_leftOf_4 f) (4999 + 1) T (w : Int) 0 0 s2) _
      rw [k_X12_leftOf_21]
      exact Rt_if (fun _ => Rt_pos rfl (no s2 o2 row2 (fun hl => hn hl.1))) (fun _ => no s2 o2 row2 (fun hl => hn hl.1))
  · intro f q ⟨o, hs, hr⟩
    obtain ⟨T, s⟩ := q
    have o' : ofr PM FM μ s := o
    have sc' := scm s o'
    have is := h.sc sc'
    have e37 : s.2 53 37 = N := by rw [← is.2.2.2.2.1.1, (sc_arr sc').2.2.2.2, hN]
    show Rt (k_X12_leftOf_4 (f + 1) T (N : Int) s) _
    rw [k_X12_leftOf_4, e37]
    exact Rt_neg (by omega) (Rt_some ⟨o, hs, hr⟩)
theorem setL_eq {v : LV} {μ ν : GM} (sc : ScOK v μ ν) {T U : Int} {N : Nat} (h : setL v μ T N) (g : setL v ν U N) : U = T := s_eq g.1 h.1 (fun j hj => by rw [g.2 j hj, h.2 j hj, Lft_k sc])
theorem ok_left {v : LV} {μ : GM} (h : InvV v μ) : PrOK f_X11_left f_X12_left μ := by
  have w5 := h.2.2.2.2.1.2.1
  obtain ⟨N, hN⟩ : ∃ N : Nat, μ.2 31 2 = N := ⟨(μ.2 31 2).toNat, by omega⟩
  unfold PrOK f_X11_left
  refine Rt_bd (left_spec h hN) (fun r s ⟨sc, hs, _⟩ => Rt_some ?_)
  have i1 := h.sc sc
  obtain ⟨j1, t1⟩ := inv_thr i1
  have sc2 := sc.trans t1
  unfold f_X12_left
  refine Rt_lm (Rt_bd (mleft_spec j1 (N := N) (by rw [(sc_arr sc2).2.2.2.2]; exact hN)) (fun r2 s2 ⟨o2, g2, _⟩ => Rt_some ⟨setL_eq sc2 hs g2, v, j1.sc ((ScOK.refl j1).m o2)⟩))
