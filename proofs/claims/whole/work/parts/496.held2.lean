/-! permits: the one side's reading -/
theorem any01 (y al : Int → Int) (d : Int) : anyv y al d = 0 ∨ anyv y al d = 1 := by
  unfold anyv; split
  · split <;> omega
  · omega
theorem any_br {a b : Int} {y al : Int → Int} {d : Int} {c : Prop} [Decidable c] {Q : Int → GM → Prop} (X : Int → Option (Int × GM)) (e1 : a = y d) (e2 : b = al d) (hc : c) (h : Rt (X (anyv y al d)) Q) : Rt (if a = 0 then ck c (if b = 0 then X 0 else X 1) else X 1) Q := by
  subst e1; subst e2
  unfold anyv at h
  by_cases q : y d = 0
  · rw [if_pos q] at h ⊢
    refine Rt_ck hc ?_
    by_cases q2 : al d = 0
    · rw [if_pos q2] at h ⊢; exact h
    · rw [if_neg q2] at h ⊢; exact h
  · rw [if_neg q] at h ⊢; exact h
theorem copen {μ s : GM} {k d : Int} {y al nt : Int → Int} (o : ofr PHc FPc μ s) (e1 : s.2 42 10 = k) (e2 : s.2 42 4 = d) (hd : 0 ≤ d ∧ d < 201) (e3 : ∀ j, 0 ≤ j → j < d → s.1 44 j = y j ∧ s.1 45 j = al j ∧ s.1 46 j = nt j) : ∃ s', f_X4_open s = some (0, s') ∧ cin μ s' k d (ups y d 0) (ups al d 1) (ups nt d 0) := by
  have p44 : PHc 44 := by unfold PHc; omega
  have p45 : PHc 45 := by unfold PHc; omega
  have p46 : PHc 46 := by unfold PHc; omega
  unfold f_X4_open lm
  rw [e2, ck_pos hd]
  dsimp only
  rw [gA_2, e2, ck_pos hd, gA_2, gA_2, e2, ck_pos hd]
  refine ⟨_, rfl, ((o.a p44).a p45).a p46, e1, e2, fun j h1 h2 => ?_⟩
  rw [gA_nk _ _ _ (by decide), gA_nk _ _ _ (by decide), gA_at, gA_nk _ _ _ (by decide), gA_at, gA_nk _ _ _ (by decide), gA_at, gA_nk _ _ _ (by decide), gA_nk _ _ _ (by decide)]
  unfold ups
  by_cases q : j = d
  · rw [if_pos q, if_pos q, if_pos q, if_pos q, if_pos q, if_pos q]; exact ⟨rfl, rfl, rfl⟩
  · rw [if_neg q, if_neg q, if_neg q, if_neg q, if_neg q, if_neg q]; exact e3 j h1 (by omega)
theorem cheld {b : Nat} {v : LV} {μ : GM} {N p : Int} {sg : Int → Int} (hv : wfL v) (hc : cV b μ = v) (hb2 : ¬ PHc b) (ra : restAt v 94 μ p) (hN : μ.2 42 2 = N) (hs : μ.1 43 = sg) (hb : N ≤ 200) :
    ∀ (n fuel : Nat) (z k d : Int) (y al nt : Int → Int) (s : GM), N - k < n → N - k < fuel → 0 ≤ z → z ≤ k → gst v sg N k d → cin μ s k d y al nt → Rt (k_X4_holdsWith_16 b fuel z s) (fun r s' => r = hev (vlu v p) sg N n k d y al nt ∧ ofr PHc FPc μ s')
  | 0, f, z, k, d, y, al, nt, s, h1, h2, h3, h4, g, h => by have := (gst_cases g).1; omega
  | n + 1, 0, z, k, d, y, al, nt, s, h1, h2, h3, h4, g, h => by have := (gst_cases g).1; omega
  | n + 1, f + 1, z, k, d, y, al, nt, s, h1, h2, h3, h4, g, h => by
    obtain ⟨gb, gc⟩ := gst_cases g
    have h0 := h
    obtain ⟨o, e1, e2, e3⟩ := h
    have eN : s.2 42 2 = N := (o.2 42 2 (by unfold FPc; omega)).trans hN
    rw [k_X4_holdsWith_16, e1, eN]
    have ed := e3 d (by omega) (by omega)
    rcases gc with ⟨g1, g2⟩ | ⟨hk, gc⟩
    · have fin : Rt (k_X4_holdsWith_261 b s) (fun r s' => r = hev (vlu v p) sg N (n + 1) k d y al nt ∧ ofr PHc FPc μ s') := by
        rw [hev, if_neg (by omega)]
        unfold k_X4_holdsWith_261
        rw [e2]
        refine Rt_ck (by omega) (any_br (fun t => some (t % 2, s)) ed.1 ed.2.1 (by omega) (Rt_some ⟨?_, o⟩))
        have := any01 y al d
        omega
      exact Rt_if (fun _ => Rt_neg (by omega) fin) (fun _ => fin)
    refine Rt_pos (by omega) (Rt_pos hk (Rt_lm (Rt_ck (by omega) (Rt_lt ?_))))
    obtain ⟨s1, hs1⟩ : ∃ s1, s1 = gF s 42 10 (k + 1) := ⟨_, rfl⟩
    have c1 : cin μ s1 (k + 1) d y al nt := by
      rw [hs1]
      exact ⟨o.f ⟨rfl, by omega⟩, gF_same _ _ _ _, by rw [gF_ne _ _ (by omega)]; exact e2, e3⟩
    obtain ⟨o1, i1, i2, i3⟩ := c1
    have e43 : s1.1 43 = sg := (o1.1 43 (by unfold PHc; omega)).trans hs
    have id := i3 d (by omega) (by omega)
    rw [w32i (x := k + 1) (by omega) (by omega), ← hs1, e43, i2]
    have p44 : PHc 44 := by unfold PHc; omega
    have p45 : PHc 45 := by unfold PHc; omega
    have p46 : PHc 46 := by unfold PHc; omega
    have wz : w32 (z + 1) = z + 1 := w32i (by omega) (by omega)
    rw [hev, if_pos hk]
    by_cases q1 : sg k = 33
    · refine Rt_pos q1 (Rt_ck (by omega) ?_)
      rw [if_pos q1, id.2.2]
      have g' : gst v sg N (k + 1) d := by
        rcases gc with ⟨q, r⟩ | ⟨q, r⟩ | ⟨q, r⟩ | ⟨q, r⟩ | ⟨q, r⟩
        · exact r
        all_goals (first | omega | (unfold ltr at q; omega))
      refine Rt_if (fun c => ?_) (fun c => ?_)
      · rw [if_pos c]
        refine Rt_ck (by omega) (Rt_lm (Rt_lt ?_))
        rw [wz]
        refine cheld hv hc hb2 ra hN hs hb n f (z + 1) (k + 1) d y al _ _ (by omega) (by omega) (by omega) (by omega) g' ⟨o1.a p46, i1, i2, fun j a1 a2 => ?_⟩
        rw [gA_nk _ _ _ (by decide), gA_nk _ _ _ (by decide), gA_at, (i3 j a1 a2).1, (i3 j a1 a2).2.1, (i3 j a1 a2).2.2]
        exact ⟨rfl, rfl, rfl⟩
      · rw [if_neg c]
        refine Rt_ck (by omega) (Rt_lm (Rt_lt ?_))
        rw [wz]
        refine cheld hv hc hb2 ra hN hs hb n f (z + 1) (k + 1) d y al _ _ (by omega) (by omega) (by omega) (by omega) g' ⟨o1.a p46, i1, i2, fun j a1 a2 => ?_⟩
        rw [gA_nk _ _ _ (by decide), gA_nk _ _ _ (by decide), gA_at, (i3 j a1 a2).1, (i3 j a1 a2).2.1, (i3 j a1 a2).2.2]
        exact ⟨rfl, rfl, rfl⟩
    refine Rt_neg q1 ?_
    rw [if_neg q1]
    by_cases q2 : sg k = 40
    · have g' : gst v sg N (k + 1) (d + 1) := by
        rcases gc with ⟨q, r⟩ | ⟨q, r⟩ | ⟨q, r⟩ | ⟨q, r⟩ | ⟨q, r⟩
        · omega
        · exact r
        all_goals (first | omega | (unfold ltr at q; omega))
      refine Rt_pos q2 (Rt_pos (by omega) (Rt_lm ?_))
      rw [if_pos q2, w32i (by omega) (by omega)]
      unfold k_X4_holdsWith_112
      obtain ⟨s2, b1, b2⟩ := copen (μ := μ) (s := gF s1 42 4 (d + 1)) (k := k + 1) (d := d + 1) (y := y) (al := al) (nt := nt) (o1.f ⟨rfl, by omega⟩) (by rw [gF_ne _ _ (by omega)]; exact i1) (gF_same _ _ _ _) (by omega) (fun j a1 a2 => i3 j a1 (by omega))
      refine Rt_bde b1 (Rt_lt ?_)
      rw [wz]
      exact cheld hv hc hb2 ra hN hs hb n f (z + 1) (k + 1) (d + 1) _ _ _ _ (by omega) (by omega) (by omega) (by omega) g' b2
    refine Rt_neg q2 ?_
    rw [if_neg q2]
    by_cases q3 : sg k = 41
    · have g' : 0 < d ∧ gst v sg N (k + 1) (d - 1) := by
        rcases gc with ⟨q, r⟩ | ⟨q, r⟩ | ⟨q, r⟩ | ⟨q, r⟩ | ⟨q, r⟩
        · omega
        · omega
        · exact r
        all_goals (first | omega | (unfold ltr at q; omega))
      refine Rt_pos q3 (Rt_ck (by omega) ?_)
      rw [if_pos q3]
      refine any_br (fun t => k_X4_holdsWith_154 (k_X4_holdsWith_16 b f) b z t s1) id.1 id.2.1 (by omega) ?_
      unfold k_X4_holdsWith_154
      rw [i2]
      refine Rt_pos g'.1 (Rt_lm ?_)
      rw [w32i (by omega) (by omega)]
      unfold k_X4_holdsWith_173
      obtain ⟨s2, b1, b2⟩ := cput (μ := μ) (s := gF s1 42 4 (d - 1)) (k := k + 1) (d := d - 1) (z := anyv y al d) (y := y) (al := al) (nt := nt) ⟨o1.f ⟨rfl, by omega⟩, by rw [gF_ne _ _ (by omega)]; exact i1, gF_same _ _ _ _, fun j a1 a2 => i3 j a1 (by omega)⟩ (by omega)
      refine Rt_bde b1 (Rt_lt ?_)
      rw [wz]
      exact cheld hv hc hb2 ra hN hs hb n f (z + 1) (k + 1) (d - 1) _ _ _ _ (by omega) (by omega) (by omega) (by omega) g'.2 b2
    refine Rt_neg q3 ?_
    rw [if_neg q3]
    by_cases q4 : sg k = 124
    · have g' : gst v sg N (k + 1) d := by
        rcases gc with ⟨q, r⟩ | ⟨q, r⟩ | ⟨q, r⟩ | ⟨q, r⟩ | ⟨q, r⟩
        · omega
        · omega
        · omega
        · exact r
        · unfold ltr at q; omega
      refine Rt_pos q4 (Rt_ck (by omega) ?_)
      rw [if_pos q4]
      refine any_br (fun t => k_X4_holdsWith_225 (k_X4_holdsWith_16 b f) b z d t s1) id.1 id.2.1 (by omega) ?_
      unfold k_X4_holdsWith_225
      have a01 := any01 y al d
      rw [show anyv y al d % 2 = anyv y al d by omega]
      refine Rt_ck (by omega) (Rt_lm ?_)
      rw [gA_2, i2]
      refine Rt_ck (by omega) (Rt_lm (Rt_lt ?_))
      rw [wz]
      refine cheld hv hc hb2 ra hN hs hb n f (z + 1) (k + 1) d _ _ _ _ (by omega) (by omega) (by omega) (by omega) g' ⟨(o1.a p44).a p45, i1, i2, fun j a1 a2 => ?_⟩
      rw [gA_nk _ _ _ (by decide), gA_at, gA_at, gA_nk _ _ _ (by decide), gA_nk _ _ _ (by decide), gA_nk _ _ _ (by decide), (i3 j a1 a2).1, (i3 j a1 a2).2.1, (i3 j a1 a2).2.2]
      exact ⟨rfl, rfl, rfl⟩
    refine Rt_neg q4 ?_
    rw [if_neg q4]
    by_cases q5 : sg k = 38
    · have g' : gst v sg N (k + 1) d := by
        rcases gc with ⟨q, r⟩ | ⟨q, r⟩ | ⟨q, r⟩ | ⟨q, r⟩ | ⟨q, r⟩
        · omega
        · omega
        · omega
        · exact r
        · unfold ltr at q; omega
      refine Rt_pos q5 (Rt_lt ?_)
      rw [if_pos q5, wz]
      exact cheld hv hc hb2 ra hN hs hb n f (z + 1) (k + 1) d _ _ _ _ (by omega) (by omega) (by omega) (by omega) g' ⟨o1, i1, i2, i3⟩
    refine Rt_neg q5 ?_
    rw [if_neg q5]
    have g' : isCm v sg N k d := by
      rcases gc with ⟨q, r⟩ | ⟨q, r⟩ | ⟨q, r⟩ | ⟨q, r⟩ | r
      · omega
      · omega
      · omega
      · omega
      · exact r
    obtain ⟨s2, b1, b2⟩ := cask hv hc hb2 ra hN hs hb gb.1 g' ⟨o1, i1, i2, i3⟩
    obtain ⟨s3, d1, d2⟩ := cput (z := cmpv (sg (k + 2)) (vlu v p (sg k) (sg (k + 1) - 48)) (wrd sg N k)) b2 (by omega)
    refine Rt_bde b1 (Rt_bde d1 (Rt_lt ?_))
    rw [wz]
    obtain ⟨t1, t2, t3, t4, t5, t6, t7⟩ := g'
    have := sgn01 sg k
    exact cheld hv hc hb2 ra hN hs hb n f (z + 1) _ d _ _ _ _ (by omega) (by omega) (by omega) (by omega) t6 d2
