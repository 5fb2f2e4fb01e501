/-! permits: where the first fault is -/
theorem fvf_n {v : LV} {sg : Int → Int} {N : Int} {m : Nat} {k a d l : Int} (h : stp v a d l (sg k) = none) : fvf v sg N (m + 1) k a d l = k := by
  rw [fvf, h]
theorem fvf_s {v : LV} {sg : Int → Int} {N : Int} {m : Nat} {k a d l a' d' l' : Int} (h : stp v a d l (sg k) = some (a', d', l')) : fvf v sg N (m + 1) k a d l = fvf v sg N m (k + 1) a' d' l' := by
  rw [fvf, h]
theorem cfault {v : LV} (hv : wfL v) {μ : GM} (hc : cV 22 μ = v) (hN : 0 ≤ μ.2 42 2 ∧ μ.2 42 2 ≤ 200) : ∀ (m fuel : Nat) (k z a d l : Int) (s : GM), m < fuel → k + m = μ.2 42 2 → 0 ≤ k → 0 ≤ d → d ≤ k → ofr nP FPc μ s → crs s z a d l →
    Rt (k_X4_firstFault_19 fuel z k s) (fun r s' => r = fvf v (μ.1 43) (μ.2 42 2) m k a d l ∧ ofr nP FPc μ s')
  | m, 0, k, z, a, d, l, s, h1, h2, h3, h4, h5, o, c => by omega
  | 0, f + 1, k, z, a, d, l, s, h1, h2, h3, h4, h5, o, c => by
    have e2 : s.2 42 2 = μ.2 42 2 := o.2 42 2 (by unfold FPc; omega)
    rw [k_X4_firstFault_19, e2]
    have b : 5 ≤ a → Rt (k_X4_firstFault_64 s) (fun r s' => r = fvf v (μ.1 43) (μ.2 42 2) 0 k a d l ∧ ofr nP FPc μ s') := by
      intro ha
      unfold k_X4_firstFault_64
      rw [c.1, e2, fvf]
      refine Rt_if (fun q => Rt_some ⟨?_, o⟩) (fun q => Rt_some ⟨?_, o⟩)
      · rw [if_pos ⟨ha, q⟩]
      · rw [if_neg (fun z => q z.2)]
    refine Rt_neg (by omega) (Rt_if (fun q => b ?_) (fun q => Rt_if (fun q => b ?_) (fun q2 => Rt_some ⟨?_, o⟩)))
    · have := c.2.1; omega
    · have := c.2.1; omega
    · have := c.2.1
      rw [fvf, if_neg (by omega)]
  | m + 1, f + 1, k, z, a, d, l, s, h1, h2, h3, h4, h5, o, c => by
    have e2 : s.2 42 2 = μ.2 42 2 := o.2 42 2 (by unfold FPc; omega)
    have e43 : s.1 43 = μ.1 43 := o.1 43 (fun z => z)
    rw [k_X4_firstFault_19, e2, e43]
    have hcs : cV 22 s = v := (cV_keep o (fun k hk z => z) (fun k j hk => by unfold FPc; omega) (fun z => z)).trans hc
    obtain ⟨m', s', g1, g2, g3⟩ := cafter hv hcs o (x := μ.1 43 k) c (by omega)
    refine Rt_pos (by omega) (Rt_ck (by omega) (Rt_bde g1 ?_))
    rcases g3 with ⟨q1, q2⟩ | ⟨q1, a', d', l', q2, q3, q4, q5⟩
    · exact Rt_pos q1 (Rt_some ⟨(fvf_n q2).symm, g2⟩)
    · refine Rt_neg q1 (Rt_lt ?_)
      rw [w32i (by omega) (by omega), fvf_s q2]
      exact cfault hv hc hN m f (k + 1) m' a' d' l' s' (by omega) (by omega) (by omega) q4 (by omega) g2 q3
abbrev ltr (l : Int) : Prop := l = 104 ∨ l = 113 ∨ l = 103 ∨ l = 100 ∨ l = 102
theorem named_y {v : LV} (hv : wfL v) {e b : Nat} {ν : GM} (hm : mV e b ν = v) {l : Int} (h : ltr l) : ∃ c, f_X12_named l ν = some (c, ν) ∧ 0 ≤ c ∧ ∀ y, y ≤ 9 → (y < c ↔ y < cnt v l) := by
  obtain ⟨w0, w1, w2, w3, w4, -⟩ := hv
  unfold f_X12_named cnt
  rw [lmN0 hm, lmN1 hm, lmN2 hm, lmN3 hm, lmN4 hm]
  by_cases q1 : l = 104
  · rw [if_pos q1, if_neg (by omega), if_neg (by omega), if_pos q1]; exact ⟨_, rfl, by omega, fun y _ => Iff.rfl⟩
  rw [if_neg q1]
  by_cases q2 : l = 113
  · rw [if_pos q2, if_neg (by omega), if_neg (by omega), if_neg (by omega), if_pos q2]; exact ⟨_, rfl, by omega, fun y _ => Iff.rfl⟩
  rw [if_neg q2]
  by_cases q3 : l = 103
  · rw [if_pos q3, if_neg (by omega), if_pos q3]; exact ⟨_, rfl, by omega, fun y _ => Iff.rfl⟩
  rw [if_neg q3]
  by_cases q4 : l = 100
  · rw [if_pos q4, if_pos q4]; exact ⟨_, rfl, by omega, fun y _ => Iff.rfl⟩
  rw [if_neg q4, if_pos (show l = 102 by unfold ltr at h; omega), if_neg q4, if_neg q3, if_neg q1, if_neg q2]
  by_cases q5 : v.2 1 < 10
  · rw [if_pos q5]; exact ⟨_, rfl, by omega, fun y _ => Iff.rfl⟩
  · rw [if_neg q5]; exact ⟨_, rfl, by omega, fun y hy => by omega⟩
theorem named_n {ν : GM} {l : Int} (h : ¬ ltr l) : f_X12_named l ν = some (-10000009, ν) := by
  unfold f_X12_named
  unfold ltr at h
  rw [if_neg (by omega), if_neg (by omega), if_neg (by omega), if_neg (by omega), if_neg (by omega)]
theorem mfault {v : LV} (hv : wfL v) {ν : GM} (hm : mV 59 70 ν = v) (hN : 0 < ν.2 53 44 ∧ ν.2 53 44 ≤ 200) (hs : ∀ i : Nat, (i : Int) < ν.2 53 44 → 32 ≤ ν.1 88 i ∧ ν.1 88 i ≤ 126) : ∀ (m fuel : Nat) (k a d z l : Int), m < fuel → k + m = ν.2 53 44 → 0 ≤ k → 0 ≤ d → d ≤ k → ((0 ≤ a ∧ a ≤ 11) ∨ a = 20) → (a = 1 → z = l ∧ ltr l) →
    Rt (k_X12_faultOf_9 fuel a d z k ν) (fun r s' => r = fvf v (ν.1 88) (ν.2 53 44) m k a d l ∧ s' = ν)
  | m, 0, k, a, d, z, l, h1, h2, h3, h4, h5, o, c => by omega
  | 0, f + 1, k, a, d, z, l, h1, h2, h3, h4, h5, o, c => by
    rw [k_X12_faultOf_9, fvf]
    refine Rt_neg (by omega) (Rt_neg (by omega) (Rt_if (fun q => Rt_some ⟨?_, rfl⟩) (fun q => Rt_if (fun q => Rt_some ⟨?_, rfl⟩) (fun q2 => Rt_some ⟨?_, rfl⟩))))
    · rw [if_neg (by omega)]
    · rw [if_pos (by omega)]
    · rw [if_neg (by omega)]
  | m + 1, f + 1, k, a, d, z, l, h1, h2, h3, h4, h5, o, c => by
    have hx : 32 ≤ ν.1 88 k ∧ ν.1 88 k ≤ 126 := by
      have := hs k.toNat (by omega)
      rwa [Int.toNat_of_nonneg h3] at this
    obtain ⟨x, ex⟩ : ∃ x, x = ν.1 88 k := ⟨_, rfl⟩
    rw [← ex] at hx
    obtain ⟨Q, hQ⟩ : ∃ Q : Int → GM → Prop, Q = (fun r s' => r = fvf v (ν.1 88) (ν.2 53 44) (m + 1) k a d l ∧ s' = ν) := ⟨_, rfl⟩
    rw [k_X12_faultOf_9, ← hQ, ← ex]
    have fail : ∀ d2 z2, stp v a d l x = none → Rt (k_X12_faultOf_279 (k_X12_faultOf_9 f) d2 z2 k (-10000009) ν) Q := by
      intro d2 z2 e
      unfold k_X12_faultOf_279
      rw [hQ]
      exact Rt_pos rfl (Rt_some ⟨(fvf_n (by rw [← ex]; exact e)).symm, rfl⟩)
    have go : ∀ a2 d2 z2 l2, stp v a d l x = some (a2, d2, l2) → ((0 ≤ a2 ∧ a2 ≤ 11) ∨ a2 = 20) → 0 ≤ d2 → d2 ≤ d + 1 → (a2 = 1 → z2 = l2 ∧ ltr l2) → Rt (k_X12_faultOf_279 (k_X12_faultOf_9 f) d2 z2 k a2 ν) Q := by
      intro a2 d2 z2 l2 e g1 g2 g3 g4
      unfold k_X12_faultOf_279
      rw [hQ, fvf_s (by rw [← ex]; exact e), w32i (by omega) (by omega)]
      exact Rt_neg (by omega) (Rt_lt (mfault hv hm hN hs m f (k + 1) a2 d2 z2 l2 (by omega) (by omega) (by omega) g2 (by omega) g1 g4))
    refine Rt_pos (by omega) (Rt_ck (by omega) (Rt_lt ?_))
    have g48 : ∀ t, a = 0 → t = (if x = 40 then 1 else 0) → Rt (k_X12_faultOf_48 (k_X12_faultOf_9 f) k x d t ν) Q := by
      intro t a0 et
      unfold k_X12_faultOf_48
      refine Rt_lt ?_
      by_cases q1 : x = 33
      · rw [if_neg (by omega)] at et
        rw [et, w32i (by omega) (by omega)]
        refine Rt_pos q1 (go 0 _ _ l ?_ (by omega) (by omega) (by omega) (by omega))
        unfold stp
        rw [if_pos a0, if_pos q1, Int.add_zero]
      refine Rt_neg q1 ?_
      by_cases q2 : x = 40
      · rw [if_pos q2] at et
        rw [et, w32i (by omega) (by omega)]
        refine Rt_pos q2 (go 0 _ _ l ?_ (by omega) (by omega) (by omega) (by omega))
        unfold stp
        rw [if_pos a0, if_neg q1, if_pos q2]
      rw [if_neg q2] at et
      rw [et, w32i (by omega) (by omega)]
      refine Rt_neg q2 ?_
      by_cases q3 : ltr x
      · obtain ⟨c', n1, n2, -⟩ := named_y hv hm q3
        refine Rt_bde n1 (Rt_neg (by omega) (go 1 _ _ x ?_ (by omega) (by omega) (by omega) (fun _ => ⟨rfl, q3⟩)))
        unfold stp
        rw [if_pos a0, if_neg q1, if_neg q2, if_pos q3, Int.add_zero]
      · refine Rt_bde (named_n q3) (Rt_pos rfl (fail _ _ ?_))
        unfold stp
        rw [if_pos a0, if_neg q1, if_neg q2, if_neg q3]
    by_cases a0 : a = 0
    · exact Rt_pos a0 (Rt_if (fun q => g48 1 a0 (if_pos q).symm) (fun q => g48 0 a0 (if_neg q).symm))
    refine Rt_neg a0 ?_
    by_cases a1 : a = 1
    · refine Rt_pos a1 ?_
      by_cases q : dgt x
      · obtain ⟨c1, c2⟩ := c a1
        obtain ⟨c', n1, n2, n3⟩ := named_y hv hm c2
        refine Rt_bde (mdig_y q) (Rt_neg (by decide) ?_)
        rw [c1]
        refine Rt_bde n1 ?_
        rw [w32i (by omega) (by omega)]
        have n4 := n3 (x - 48) (by unfold dgt at q; omega)
        refine Rt_if (fun g => go 2 d _ l ?_ (by omega) (by omega) (by omega) (by omega)) (fun g => fail _ _ ?_)
        · unfold stp; rw [if_neg a0, if_pos a1, if_pos ⟨q, n4.1 g⟩]
        · unfold stp; rw [if_neg a0, if_pos a1, if_neg (fun w => g (n4.2 w.2))]
      · refine Rt_bde (mdig_n q) (Rt_pos rfl (fail _ _ ?_))
        unfold stp; rw [if_neg a0, if_pos a1, if_neg (fun w => q w.1)]
    refine Rt_neg a1 ?_
    by_cases a2 : a = 2
    · refine Rt_pos a2 ?_
      have yes : x = 60 ∨ x = 62 ∨ x = 61 → Rt (k_X12_faultOf_279 (k_X12_faultOf_9 f) d z k 3 ν) Q := fun g => go 3 d z l (by unfold stp; rw [if_neg a0, if_neg a1, if_pos a2, if_pos g]) (by omega) (by omega) (by omega) (by omega)
      exact Rt_if (fun q => yes (by omega)) (fun q1 => Rt_if (fun q => yes (by omega)) (fun q2 => Rt_if (fun q => yes (by omega)) (fun q3 => fail _ _ (by unfold stp; rw [if_neg a0, if_neg a1, if_pos a2, if_neg (by omega)]))))
    refine Rt_neg a2 ?_
    have g241 : ¬ (dgt x ∧ a < 11) → 5 ≤ a → Rt (k_X12_faultOf_241 (k_X12_faultOf_9 f) d z k x (-10000009) ν) Q := by
      intro nd ha
      have es : stp v a d l x = (bhd d x).map (fun q => (q.1, q.2, l)) := by
        unfold stp
        rw [if_neg a0, if_neg a1, if_neg a2, if_neg (by omega), if_neg (by omega), if_neg nd]
      unfold k_X12_faultOf_241
      have yes : x = 38 ∨ x = 124 → Rt (k_X12_faultOf_279 (k_X12_faultOf_9 f) d z k 0 ν) Q := fun g => go 0 d z l (by rw [es]; unfold bhd; rw [if_pos g]; rfl) (by omega) (by omega) (by omega) (by omega)
      refine Rt_if (fun q => yes (Or.inl q)) (fun q1 => Rt_if (fun q => yes (Or.inr q)) (fun q2 => ?_))
      have nb : ¬ (x = 38 ∨ x = 124) := by omega
      refine Rt_if (fun q3 => Rt_if (fun q4 => Rt_lt ?_) (fun q4 => fail _ _ ?_)) (fun q3 => fail _ _ ?_)
      · rw [w32i (by omega) (by omega)]
        exact go 20 (d + -1) z l (by rw [es]; unfold bhd; rw [if_neg nb, if_pos ⟨q3, q4⟩]; rfl) (by omega) (by omega) (by omega) (by omega)
      · rw [es]; unfold bhd; rw [if_neg nb, if_neg (fun w => q4 w.2)]; rfl
      · rw [es]; unfold bhd; rw [if_neg nb, if_neg (fun w => q3 w.1)]; rfl
    have g195 : ((a = 3 ∧ x ≠ 45) ∨ a = 4) → Rt (k_X12_faultOf_195 (k_X12_faultOf_9 f) d z k x ν) Q := by
      intro ha
      have es : stp v a d l x = if dgt x then some (5, d, l) else none := by
        unfold stp
        rw [if_neg a0, if_neg a1, if_neg a2]
        rcases ha with ha | ha
        · rw [if_pos ha.1, if_neg ha.2]
        · rw [if_neg (by omega), if_pos ha]
      unfold k_X12_faultOf_195
      by_cases q : dgt x
      · refine Rt_bde (mdig_y q) (Rt_neg (by decide) (go 5 d z l (by rw [es, if_pos q]) (by omega) (by omega) (by omega) (by omega)))
      · refine Rt_bde (mdig_n q) (Rt_pos rfl (fail _ _ (by rw [es, if_neg q])))
    have g185 : ¬ (a = 3 ∧ x = 45) → Rt (k_X12_faultOf_185 (k_X12_faultOf_9 f) a d z k x (-10000009) ν) Q := by
      intro ha
      unfold k_X12_faultOf_185
      refine Rt_if (fun a3 => g195 (by omega)) (fun a3 => Rt_if (fun a4 => g195 (by omega)) (fun a4 => ?_))
      by_cases q : dgt x
      · refine Rt_bde (mdig_y q) (Rt_neg (by decide) (Rt_neg (by omega) (Rt_if (fun g => Rt_lt ?_) (fun g => g241 (fun w => g w.2) (by omega)))))
        rw [w32i (by omega) (by omega)]
        refine go (a + 1) d z l ?_ (by omega) (by omega) (by omega) (by omega)
        unfold stp
        rw [if_neg a0, if_neg a1, if_neg a2, if_neg a3, if_neg a4, if_pos ⟨q, g⟩]
      · exact Rt_bde (mdig_n q) (Rt_pos rfl (g241 (fun w => q w.1) (by omega)))
    refine Rt_if (fun a3 => Rt_if (fun q => go 4 d z l ?_ (by omega) (by omega) (by omega) (by omega)) (fun q => g185 (fun w => q w.2))) (fun a3 => g185 (fun w => a3 w.1))
    unfold stp
    rw [if_neg a0, if_neg a1, if_neg a2, if_pos a3, if_pos q]
theorem ofr_FPc {μ s : GM} (o : ofr nP FPc μ s) : ofr PSc FSc μ s := o.mono (fun k hk => hk.elim) (fun k j hk => by unfold FPc at hk; unfold FSc; omega)
theorem InvV.fp {v : LV} {μ s : GM} (h : InvV v μ) (o : ofr nP FPc μ s) : InvV v s := by
  refine h.sc ⟨ofr_FPc o, ?_, ?_, ?_⟩
  · exact cache_keep h.2.1.2.1 (o.1 _ (fun z => z)) (o.1 _ (fun z => z)) (fun z _ => o.1 _ (fun z => z))
  · rw [o.2 94 8 (by unfold FPc; omega)]; exact h.2.1.2.2
  · rw [o.2 132 8 (by unfold FPc; omega)]; exact h.2.2.1.2
theorem ok_fault {v : LV} {μ : GM} (h : InvV v μ) : PrOK f_X11_fault f_X12_fault μ := by
  have hv := h.1.2.2.1
  have hp := h.2.2.2.2.2.2.1
  have hp2 := hp.2.1
  obtain ⟨N, hN⟩ : ∃ N, N = μ.2 42 2 := ⟨_, rfl⟩
  unfold PrOK f_X11_fault
  refine Rt_bd (P := fun r s => (r = if N = 0 then -10000009 else fvf v (μ.1 43) N N.toNat 0 0 0 0) ∧ ofr nP FPc μ s) ?_ ?_
  · unfold f_X4_firstFault
    rw [← hN]
    refine Rt_if (fun q => Rt_some ⟨by rw [if_pos q], ofr.rfl⟩) (fun q => Rt_lm ?_)
    rw [if_neg q, hN]
    exact cfault hv h.1.1 (by omega) (μ.2 42 2).toNat FU 0 0 0 0 0 (gF μ 42 4 0) (FU_gt (by omega)) (by omega) (by omega) (by omega) (by omega) (ofr.rfl.f ⟨rfl, by omega⟩) ⟨gF_same _ _ _ _, Or.inl ⟨by omega, by omega, rfl⟩, by omega⟩
  · intro r s ⟨er, o⟩
    refine Rt_some ?_
    have i1 := h.fp o
    obtain ⟨h1, s1⟩ := inv_thr i1
    unfold f_X12_fault f_X12_faultOf
    refine Rt_lm (Rt_bd (P := fun r' s' => r' = r ∧ s' = gF s 53 0 0) ?_ (fun r' s' e => Rt_some ⟨e.1, v, by rw [e.2]; exact h1⟩))
    have hp' := h1.2.2.2.2.2.2.1
    have e42 : (gF s 53 0 0).2 42 2 = N := by rw [gF_ne _ _ (by omega), o.2 42 2 (by unfold FPc; omega), hN]
    have e44 : (gF s 53 0 0).2 53 44 = N := by rw [← hp'.1]; exact e42
    have e88 : (gF s 53 0 0).1 88 = μ.1 43 := by rw [← hp'.2.2.1, gF_1, o.1 43 (fun z => z)]
    by_cases q : N = 0
    · rw [if_pos q] at er
      rw [FU_eq, k_X12_faultOf_9, e44]
      exact Rt_neg (by omega) (Rt_pos q (Rt_some ⟨er.symm, rfl⟩))
    · rw [if_neg q] at er
      have := mfault hv h1.1.2.1 (by omega) (fun i hi => by rw [← hp'.2.2.1]; exact hp'.2.2.2 i (by omega)) N.toNat FU 0 0 0 0 0 (FU_gt (by omega)) (by omega) (by omega) (by omega) (by omega) (by omega) (by omega)
      rw [e44, e88, ← er] at this
      exact this
