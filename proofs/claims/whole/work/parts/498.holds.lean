/-! permits: holds -/
def HV (v : LV) (p : Int) (sg : Int → Int) (N : Int) : Int := hev (vlu v p) sg N (N.toNat + 1) 0 0 (ups (fun _ => 0) 0 0) (ups (fun _ => 0) 0 1) (ups (fun _ => 0) 0 0)
theorem cheldW {b : Nat} {v : LV} {s : GM} {N p : Int} {sg : Int → Int} (hv : wfL v) (hc : cV b s = v) (hb2 : ¬ PHc b) (ra : restAt v 94 s p) (hN : s.2 42 2 = N) (hs : s.1 43 = sg) (hb : 0 ≤ N ∧ N ≤ 200) (g : gst v sg N 0 0) : Rt (f_X4_holdsWith b s) (fun r s' => r = HV v p sg N ∧ ofr PHc FPc s s') := by
  unfold f_X4_holdsWith
  obtain ⟨s1, b1, b2⟩ := copen (μ := s) (s := gF s 42 4 0) (d := 0) (y := fun _ => 0) (al := fun _ => 0) (nt := fun _ => 0) (ofr.rfl.f ⟨rfl, by omega⟩) rfl (gF_same _ _ _ _) (by omega) (fun j h1 h2 => by omega)
  refine Rt_lm (Rt_bde b1 (Rt_lm ?_))
  exact cheld hv hc hb2 ra hN hs hb.2 (N.toNat + 1) FU 0 0 0 _ _ _ (gF s1 42 10 0) (by omega) (by rw [FU_eq]; omega) (by omega) (by omega) g ⟨b2.1.f ⟨rfl, by omega⟩, gF_same _ _ _ _, by rw [gF_ne _ _ (by omega)]; exact b2.2.2.1, b2.2.2.2⟩
theorem mheldW {v : LV} {s : GM} {N p : Int} {sg : Int → Int} (hv : wfL v) (hm : veq v (mV 72 73 s)) (ra : restM v s p) (hN : s.2 53 44 = N) (hs : s.1 88 = sg) (hb : 0 ≤ N ∧ N ≤ 200) (g : gst v sg N 0 0) : Rt (f_X12_isHeld s) (fun r s' => r = HV v p sg N ∧ ofr PHm nFm s s') := by
  unfold f_X12_isHeld
  obtain ⟨s1, b1, b2⟩ := mbegin (ν := s) (s := s) (k := 0) (d := 0) (y := fun _ => 0) (al := fun _ => 0) (nt := fun _ => 0) ofr.rfl (by omega) (by omega) (fun j h1 h2 => by omega)
  refine Rt_bde b1 ?_
  exact mheld hv hm ra hN hs hb.2 (N.toNat + 1) FU 0 0 _ _ _ s1 (by omega) (by rw [FU_eq]; omega) g b2
def FV (v : LV) (sg : Int → Int) (N : Int) : Int := fvf v sg N N.toNat 0 0 0 0
theorem FV_gst {v : LV} {sg : Int → Int} {N : Int} (hN : 0 ≤ N) (h : FV v sg N = -10000009) : gst v sg N 0 0 := ⟨0, ⟨N.toNat, 0, by omega, by omega, by omega, by omega, h⟩, Or.inl rfl⟩
theorem permit_c {v : LV} {μ : GM} (h : InvV v μ) : Rt (f_X4_isPermit μ) (fun r s => r = (if 0 < μ.2 42 2 ∧ FV v (μ.1 43) (μ.2 42 2) = -10000009 then 1 else 0) ∧ ofr nP FPc μ s) := by
  have hv := h.1.2.2.1
  have hp2 := h.2.2.2.2.2.2.1.2.1
  unfold f_X4_isPermit
  refine Rt_if (fun q => ?_) (fun q => Rt_some ⟨by rw [if_neg (fun z => q z.1)]; rfl, ofr.rfl⟩)
  refine Rt_bd (P := fun r s => r = FV v (μ.1 43) (μ.2 42 2) ∧ ofr nP FPc μ s) ?_ (fun r s ⟨e, o⟩ => ?_)
  · unfold f_X4_firstFault
    exact Rt_neg (by omega) (Rt_lm (cfault hv h.1.1 (by omega) (μ.2 42 2).toNat FU 0 0 0 0 0 (gF μ 42 4 0) (FU_gt (by omega)) (by omega) (by omega) (by omega) (by omega) (ofr.rfl.f ⟨rfl, by omega⟩) ⟨gF_same _ _ _ _, Or.inl ⟨by omega, by omega, rfl⟩, by omega⟩))
  · rw [e]
    exact Rt_if (fun c => Rt_some ⟨by rw [if_pos ⟨q, c⟩]; rfl, o⟩) (fun c => Rt_some ⟨by rw [if_neg (fun z => c z.2)]; rfl, o⟩)
theorem FV_m {v : LV} {s : GM} (h : InvV v s) (hN : 0 < s.2 53 44) : Rt (f_X12_faultOf s) (fun r s' => r = FV v (s.1 88) (s.2 53 44) ∧ s' = s) := by
  have hp := h.2.2.2.2.2.2.1
  have hp2 := hp.2.1
  have e := hp.1
  unfold f_X12_faultOf
  exact mfault h.1.2.2.1 h.1.2.1 (by omega) (fun i hi => by rw [← hp.2.2.1]; exact hp.2.2.2 i (by omega)) (s.2 53 44).toNat FU 0 0 0 0 0 (FU_gt (by omega)) (by omega) (by omega) (by omega) (by omega) (by omega) (by omega)
theorem ok_holds {v : LV} {μ : GM} (h : InvV v μ) : PrOK f_X11_holds f_X12_holds μ := by
  have hv := h.1.2.2.1
  obtain ⟨N, hN⟩ : ∃ N, N = μ.2 42 2 := ⟨_, rfl⟩
  obtain ⟨sg, hsg⟩ : ∃ sg, sg = μ.1 43 := ⟨_, rfl⟩
  have hb : 0 ≤ N ∧ N ≤ 200 := by have := h.2.2.2.2.2.2.1.2.1; omega
  obtain ⟨tt, ty, tn⟩ : ∃ tt, (∀ p, nn v 0 ≠ 0 → okp v p → isR v p → 0 < N ∧ FV v sg N = -10000009 → tt = if HV v p sg N = 0 then 0 else 1) ∧ (¬ (hasR v ∧ 0 < N ∧ FV v sg N = -10000009) → tt = -10000003) := by
    obtain ⟨t, t1, t2⟩ := rest_val hv (-10000003) (fun p => if HV v p sg N = 0 then 0 else 1)
    by_cases q : 0 < N ∧ FV v sg N = -10000009
    · exact ⟨t, fun p a b c _ => t2 p a b c, fun z => t1 (fun w => z ⟨w, q⟩)⟩
    · exact ⟨-10000003, fun p _ _ _ z => absurd z q, fun _ => rfl⟩
  have C : Rt (f_X11_holds μ) (fun r s => r = tt ∧ ScOK v μ s) := by
    unfold f_X11_holds
    refine Rt_bd (permit_c h) (fun r s ⟨er, o⟩ => ?_)
    rw [← hN, ← hsg] at er
    have i1 := h.fp o
    have sc1 : ScOK v μ s := ⟨ofr_FPc o, i1.2.1.2.1, i1.2.1.2.2, i1.2.2.1.2⟩
    by_cases q : 0 < N ∧ FV v sg N = -10000009
    · rw [if_pos q] at er
      refine Rt_neg (by omega) (Rt_bd (atRest_spec i1) (fun r2 s2 ⟨sc2, ho⟩ => ?_))
      rcases ho with ⟨r1, p, hp⟩ | ⟨r0, hn⟩
      · have i2 := i1.sc sc2
        have sc12 := sc1.trans sc2
        refine Rt_neg (by omega) (Rt_bd (cheldW hv i2.1.1 (by unfold PHc; omega) hp ((sc12.1.2 42 2 (by unfold FSc; omega)).trans hN.symm) ((sc12.1.1 43 (by unfold PSc; omega)).trans hsg.symm) hb (FV_gst hb.1 q.2)) (fun r3 s3 ⟨e3, o3⟩ => ?_))
        have sc3 : ScOK v s2 s3 := by
          refine ⟨o3.mono (fun k hk => by unfold PHc at hk; unfold PSc; omega) (fun k j hk => by unfold FPc at hk; unfold FSc; omega), ?_, ?_, ?_⟩
          · exact cache_keep i2.2.1.2.1 (o3.1 _ (by unfold PHc; omega)) (o3.1 _ (by unfold PHc; omega)) (fun z _ => o3.1 _ (by unfold PHc; omega))
          · rw [o3.2 94 8 (by unfold FPc; omega)]; exact i2.2.1.2.2
          · rw [o3.2 132 8 (by unfold FPc; omega)]; exact i2.2.2.1.2
        have et := ty p hp.1 hp.2.1 hp.2.2.1 q
        rw [e3]
        exact Rt_if (fun c => Rt_some ⟨by rw [et, if_pos c], sc12.trans sc3⟩) (fun c => Rt_some ⟨by rw [et, if_neg c], sc12.trans sc3⟩)
      · exact Rt_pos r0 (Rt_some ⟨(tn (fun z => hn z.1)).symm, sc1.trans sc2⟩)
    · rw [if_neg q] at er
      exact Rt_pos er (Rt_some ⟨(tn (fun z => q z.2)).symm, sc1⟩)
  unfold PrOK
  refine C.mono (fun r s ⟨er, sc⟩ => ?_)
  have i0 := h.sc sc
  obtain ⟨i1, sc0⟩ := inv_thr i0
  have sc1 := sc.trans sc0
  have e44 : (gF s 53 0 0).2 53 44 = N := by rw [← i1.2.2.2.2.2.2.1.1, sc1.1.2 42 2 (by unfold FSc; omega), hN]
  have e88 : (gF s 53 0 0).1 88 = sg := by rw [← i1.2.2.2.2.2.2.1.2.2.1, sc1.1.1 43 (by unfold PSc; omega), hsg]
  unfold f_X12_holds
  refine Rt_lm ?_
  by_cases q0 : N = 0
  · rw [e44]
    exact Rt_pos q0 (Rt_some ⟨by rw [er]; exact (tn (fun z => by omega)).symm, v, i1⟩)
  have fm := FV_m i1 (by rw [e44]; omega)
  rw [e44, e88] at fm
  rw [e44]
  refine Rt_neg q0 (Rt_bd fm (fun r1 s1 ⟨f1, f2⟩ => ?_))
  rw [f1, f2]
  by_cases q : ¬ (FV v sg N = -10000009)
  · exact Rt_neg q (Rt_some ⟨by rw [er]; exact (tn (fun z => q z.2.2)).symm, v, i1⟩)
  have q := Decidable.of_not_not q
  refine Rt_pos q (Rt_bd (rests_spec i1) (fun r2 s2 ⟨m1, m2, m3, ho⟩ => ?_))
  have sc2 : ScOK v (gF s 53 0 0) s2 := (ScOK.refl i1).m m1
  have i2 := i1.sc sc2
  rcases ho with ⟨r1, p, hp⟩ | ⟨r0, hn⟩
  · have hve : veq v (mV 72 73 s2) := mV_now i2.1.2.1 hv ofr.rfl (fun l hl => by rw [m2 l hl, m1.1 59 (by unfold PM; omega)]) (fun l hl => by rw [m3 l hl, m1.1 70 (by unfold PM; omega)])
    refine Rt_neg (by omega) (Rt_bd (mheldW hv hve hp ((m1.2 53 44 (by unfold FM; omega)).trans e44) ((m1.1 88 (by unfold PM; omega)).trans e88) hb (FV_gst hb.1 q)) (fun r3 s3 ⟨e3, o3⟩ => ?_))
    have i3 : InvV v s3 := i2.sc ((ScOK.refl i2).m (o3.mono (fun k hk => by unfold PHm at hk; unfold PM; omega) (fun k j hk => hk.elim)))
    have et := ty p hp.1 hp.2.1 hp.2.2.1 ⟨by omega, q⟩
    rw [e3]
    exact Rt_if (fun c => Rt_some ⟨by rw [er, et, if_pos c], v, i3⟩) (fun c => Rt_some ⟨by rw [er, et, if_neg c], v, i3⟩)
  · exact Rt_pos r0 (Rt_some ⟨by rw [er]; exact (tn (fun z => hn z.1)).symm, v, i2⟩)
