/-! elimination and inverse as the one side does them -/
theorem elim_spec {t a n : Nat} {A : Nat → Nat → Int} (hA : lapm n A) (hd : dgs A) (hn6 : n ≤ 6) {k : Nat} (hk : k < n) {D : Int} {m : Nat → Nat → Int} (hB : BI n A k D m) (hp : m k k ≠ 0) {μ0 : GM} (hn : μ0.2 1 0 = n) (hm0 : ∀ i j, i < n → j < n → μ0.1 a (ix i j) = m i j) :
    Rt (f_X6_eliminate t a (k : Int) D μ0) (fun _ μ => ofr (fun q => q = a) nF μ0 μ ∧ ∀ i j, i < n → j < n → μ.1 a (ix i j) = bnext k D m i j) := by
  have hD := hB.1.1
  have pv := hB.piv hA hd hk hn6
  have ex := hB.exact hk hp
  unfold f_X6_eliminate
  refine Rt_neg (by omega) (Rt_lt ?_)
  rw [hn, w32_7r (i := k) (by omega)]
  refine Rt_ck (ix_ok (by omega) (by omega)) (Rt_lt ?_)
  rw [hm0 k k hk hk]
  refine Rt_loop (fun f z s => k_X6_eliminate_27 t a f (k : Int) D (n : Int) (m k k) z s) _ n (fun z s => ofr (fun q => q = a) nF μ0 s ∧ ∀ i j, i < n → j < n → s.1 a (ix i j) = if i < z ∧ i ≠ k then bnext k D m i j else m i j) ?_ ?_ FU 0 μ0 (by omega) (FU_gt (by omega)) ⟨ofr.rfl, fun i j hi hj => by rw [if_neg (by omega)]; exact hm0 i j hi hj⟩
  · intro f z s hz ⟨hs, hm⟩ hnext
    show Rt (k_X6_eliminate_27 t a (f + 1) (k : Int) D (n : Int) (m k k) (z : Int) s) _
    rw [k_X6_eliminate_27]
    refine Rt_pos (by omega) (Rt_if (fun q => Rt_lt ?_) (fun q => ?_))
    · rw [w32s (by omega)]
      refine hnext s ⟨hs, fun i j hi hj => ?_⟩
      rw [hm i j hi hj]
      by_cases c : i < z ∧ i ≠ k
      · rw [if_pos c, if_pos ⟨by omega, c.2⟩]
      · rw [if_neg c, if_neg (by omega)]
    · have hzk : z ≠ k := by omega
      rw [w32_6r (i := z) (j := k) (by omega) (by omega)]
      refine Rt_ck (ix_ok (by omega) (by omega)) (Rt_lt ?_)
      rw [hm z k hz hk, if_neg (by omega)]
      have ek := hB.ent hA hd hk hn6 (i := z) (j := k) hz hk (Or.inl hzk)
      refine Rt_loop (fun f' j s' => k_X6_eliminate_57 (k_X6_eliminate_27 t a f) t a f' (k : Int) D (n : Int) (m k k) (z : Int) (m z k) j s') _ n (fun b s' => ofr (fun q => q = a) nF μ0 s' ∧ ∀ i j, i < n → j < n → s'.1 a (ix i j) = if i < z ∧ i ≠ k ∨ i = z ∧ j < b ∧ j ≠ k then bnext k D m i j else m i j) ?_ ?_ FU 0 s (by omega) (FU_gt (by omega)) ⟨hs, fun i j hi hj => by
        rw [hm i j hi hj]
        by_cases c : i < z ∧ i ≠ k
        · rw [if_pos c, if_pos (Or.inl c)]
        · rw [if_neg c, if_neg (by omega)]⟩
      · intro f2 b s' hb ⟨hs', hm'⟩ hnext2
        show Rt (k_X6_eliminate_57 (k_X6_eliminate_27 t a f) t a (f2 + 1) (k : Int) D (n : Int) (m k k) (z : Int) (m z k) (b : Int) s') _
        rw [k_X6_eliminate_57]
        refine Rt_pos (by omega) (Rt_if (fun q2 => Rt_lt ?_) (fun q2 => Rt_lt ?_))
        · rw [w32s (by omega)]
          refine hnext2 s' ⟨hs', fun i j hi hj => ?_⟩
          rw [hm' i j hi hj]
          by_cases c : i < z ∧ i ≠ k ∨ i = z ∧ j < b ∧ j ≠ k
          · rw [if_pos c, if_pos (by omega)]
          · rw [if_neg c, if_neg (by omega)]
        · have hbk : b ≠ k := by omega
          rw [w32_6r (i := z) (j := b) (by omega) (by omega), w32_6r (i := k) (j := b) (by omega) (by omega)]
          refine Rt_ck (ix_ok (by omega) (by omega)) (Rt_ck (ix_ok (by omega) (by omega)) (Rt_ck (by omega) (Rt_ck (ix_ok (by omega) (by omega)) (Rt_lm (Rt_lt ?_)))))
          rw [w32s (by omega), hm' z b hz hb, if_neg (by omega), hm' k b hk hb, if_neg (by omega)]
          have e1 := hB.ent hA hd hk hn6 (i := z) (j := b) hz hb (Or.inl hzk)
          have e2 := hB.ent hA hd hk hn6 (i := k) (j := b) hk hb (Or.inr hbk)
          have p1 := abs_mul (x := m k k) (y := m z b) (a := 6780000000) (b := 430000000) (by omega) (by omega) e1.1 e1.2
          have p2 := abs_mul (x := m z k) (y := m k b) (a := 430000000) (b := 430000000) ek.1 ek.2 e2.1 e2.2
          rw [w64i (x := m k k * m z b) (by omega) (by omega), w64i (x := m z k * m k b) (by omega) (by omega), w64i (x := m k k * m z b - m z k * m k b) (by omega) (by omega)]
          have p3 := abs_tdiv (x := m k k * m z b - m z k * m k b) (D := D) (b := 3200000000000000000) (by omega) (by omega)
          rw [w64i (by omega) (by omega)]
          refine hnext2 _ ⟨hs'.a (Eq.refl a), fun i j hi hj => ?_⟩
          rw [gA_at]
          by_cases q3 : ix i j = ix z b
          · obtain ⟨q4, q5⟩ := ix_inj (by omega) (by omega) q3
            subst q4
            subst q5
            rw [if_pos q3, if_pos (by omega)]
            unfold bnext
            rw [if_neg hzk, if_neg hbk]
          · rw [if_neg q3, hm' i j hi hj]
            have q6 : i = z → j ≠ b := fun h1 h2 => q3 (by rw [h1, h2])
            by_cases c : i < z ∧ i ≠ k ∨ i = z ∧ j < b ∧ j ≠ k
            · rw [if_pos c, if_pos (by omega)]
            · rw [if_neg c, if_neg (by omega)]
      · intro f2 s' ⟨hs', hm'⟩
        show Rt (k_X6_eliminate_57 (k_X6_eliminate_27 t a f) t a (f2 + 1) (k : Int) D (n : Int) (m k k) (z : Int) (m z k) (n : Int) s') _
        rw [k_X6_eliminate_57]
        refine Rt_neg (by omega) ?_
        rw [w32_6r (i := z) (j := k) (by omega) (by omega)]
        refine Rt_ck (ix_ok (by omega) (by omega)) (Rt_lm (Rt_lt ?_))
        rw [w32s (by omega), w64i (by omega) (by omega)]
        refine hnext _ ⟨hs'.a (Eq.refl a), fun i j hi hj => ?_⟩
        rw [gA_at]
        by_cases q3 : ix i j = ix z k
        · obtain ⟨q4, q5⟩ := ix_inj (by omega) (by omega) q3
          subst q4
          subst q5
          rw [if_pos q3, if_pos (by omega), bnext_ik D m hzk]
        · rw [if_neg q3, hm' i j hi hj]
          have q6 : i = z → j ≠ k := fun h1 h2 => q3 (by rw [h1, h2])
          by_cases c : i < z ∧ i ≠ k ∨ i = z ∧ j < n ∧ j ≠ k
          · rw [if_pos c, if_pos (by omega)]
          · rw [if_neg c, if_neg (by omega)]
  · intro f s ⟨hs, hm⟩
    show Rt (k_X6_eliminate_27 t a (f + 1) (k : Int) D (n : Int) (m k k) (n : Int) s) _
    rw [k_X6_eliminate_27]
    refine Rt_neg (by omega) ?_
    rw [w32_7r (i := k) (by omega)]
    refine Rt_ck (ix_ok (by omega) (by omega)) (Rt_lm (Rt_some ⟨hs.a (Eq.refl a), fun i j hi hj => ?_⟩))
    rw [gA_at]
    by_cases q3 : ix i j = ix k k
    · obtain ⟨q4, q5⟩ := ix_inj (by omega) (by omega) q3
      subst q4
      subst q5
      rw [if_pos q3, bnext_kk]
    · rw [if_neg q3, hm i j hi hj]
      by_cases c : i < n ∧ i ≠ k
      · rw [if_pos c]
      · have : i = k := by omega
        subst this
        rw [if_neg c, bnext_kj D m (fun z => q3 (by rw [z]))]
def slotOK (v : LV) (t : Nat) (μ : GM) (z : Nat) (p : Int) : Prop := μ.1 (t + 3) z = detv v p ∧ (detv v p ≠ 0 → ∃ m, adjOK v p (detv v p) m ∧ ∀ i j, i < nn v 0 → j < nn v 0 → μ.1 (t + 6 + z) (ix i j) = m i j)
theorem invert_spec {t b : Nat} (ht : gRt t) {p : Int} {v : LV} (hv : wfL v) (hb : b < 53) {z : Nat} (hz : z < gSl t) {μ0 : GM} (hc : cV b μ0 = v) :
    Rt (f_X6_invert t p (z : Int) μ0) (fun _ μ => ofr (fun k => k = t + 6 + z ∨ k = t + 1 ∨ k = t + 3) nF μ0 μ ∧ μ.1 (t + 1) z = p ∧ slotOK v t μ z p ∧ ∀ i : Int, i ≠ z → μ.1 (t + 1) i = μ0.1 (t + 1) i ∧ μ.1 (t + 3) i = μ0.1 (t + 3) i) := by
  have ht94 : 94 ≤ t := by rcases ht with h | h <;> omega
  have hsl : gSl t ≤ 32 := by unfold gSl; split <;> omega
  obtain ⟨a, ha⟩ : ∃ a, a = t + 6 + z := ⟨_, rfl⟩
  have hlen : gLen a = 36 := by
    rcases ht with h | h
    · subst h
      have hz2 : z < 32 := hz
      have : ∀ z : Fin 32, gLen (94 + 6 + z.1) = 36 := by decide +kernel
      rw [ha]; exact this ⟨z, hz2⟩
    · subst h
      have hz2 : z < 1 := hz
      have e : z = 0 := by omega
      subst e
      rw [ha]; decide +kernel
  have n0 := nn_c hv 0 (by omega)
  have l0 := hv.1
  have hn6 := n6 hv
  have kp : ∀ s, ofr (fun k => k = a) nF μ0 s → cV b s = v := fun s h => (cV_keep h (fun k hk => by omega) (fun _ _ _ z => z) (by omega)).trans hc
  unfold f_X6_invert
  rw [Int.toNat_natCast, ← ha]
  refine Rt_ck (by omega) (Rt_bd (fillm_spec (t := t) (p := p) hv (show 53 ≤ a by omega) hb hlen hc) (fun _ μ1 ⟨hμ1, hm1⟩ => ?_))
  have fin : ∀ (D : Int) (s : GM), ofr (fun k => k = a) nF μ0 s → (D = detv v p ∧ (detv v p ≠ 0 → ∃ m, adjOK v p (detv v p) m ∧ ∀ i j, i < nn v 0 → j < nn v 0 → s.1 a (ix i j) = m i j)) → Rt (k_X6_invert_73 t p (z : Int) D s) (fun _ μ => ofr (fun k => k = a ∨ k = t + 1 ∨ k = t + 3) nF μ0 μ ∧ μ.1 (t + 1) z = p ∧ slotOK v t μ z p ∧ ∀ i : Int, i ≠ z → μ.1 (t + 1) i = μ0.1 (t + 1) i ∧ μ.1 (t + 3) i = μ0.1 (t + 3) i) := by
    intro D s hs ⟨hD, hmm⟩
    unfold k_X6_invert_73
    refine Rt_ck (by omega) (Rt_lm (Rt_ck (by omega) (Rt_lm (Rt_some ⟨?_, gA_same _ _ _ _, ⟨?_, ?_⟩, ?_⟩))))
    · refine ofr.a (P := fun k => k = a ∨ k = t + 1 ∨ k = t + 3) (ofr.a (hs.mono (fun k hk => Or.inl hk) (fun _ _ h => h)) ?_) ?_
      · exact Or.inr (Or.inr rfl)
      · exact Or.inr (Or.inl rfl)
    · rw [gA_nk _ _ _ (by omega), gA_same]; exact hD
    · intro h
      obtain ⟨m, h1, h2⟩ := hmm h
      refine ⟨m, h1, fun i j hi hj => ?_⟩
      rw [gA_nk _ _ _ (by omega), gA_nk _ _ _ (by omega), ← ha]
      exact h2 i j hi hj
    · intro i hi
      constructor
      · rw [gA_ni _ _ _ hi, gA_nk _ _ _ (by omega), hs.1 (t + 1) (by omega)]
      · rw [gA_nk _ _ _ (by omega), gA_ni _ _ _ hi, hs.1 (t + 3) (by omega)]
  refine Rt_loop (fun f k (s : Int × GM) => k_X6_invert_19 t f p (z : Int) a s.1 k s.2) _ (nn v 0) (fun k s => ofr (fun k => k = a) nF μ0 s.2 ∧ ((s.1 = 0 ∧ detv v p = 0) ∨ ∃ m, BI (nn v 0) (mat v p) k s.1 m ∧ ∀ i j, i < nn v 0 → j < nn v 0 → s.2.1 a (ix i j) = m i j)) ?_ ?_ FU 0 (1, μ1) (by omega) (FU_gt (by omega)) ⟨hμ1, Or.inr ⟨mat v p, BI.zero (mat_lap hv p), fun i j hi hj => hm1 i j (by omega) (by omega)⟩⟩
  · intro f k s hk ⟨hs, hor⟩ hnext
    obtain ⟨D, s⟩ := s
    have hcs := kp s hs
    show Rt (k_X6_invert_19 t (f + 1) p (z : Int) a D (k : Int) s) _
    rw [k_X6_invert_19, lcN0 hcs]
    refine Rt_pos (by omega) ?_
    rcases hor with ⟨h0, hdet⟩ | ⟨m, hB, hm⟩
    · have h0' : D = 0 := h0
      refine Rt_pos h0' (fin D s hs ⟨by omega, fun h => absurd hdet h⟩)
    · have hDp := hB.1.1
      have hDp' : 0 < D := hDp
      refine Rt_neg (by omega) ?_
      rw [w32_7r (i := k) (by omega)]
      refine Rt_ck (ix_ok (by omega) (by omega)) (Rt_lt ?_)
      have hm' : ∀ i j, i < nn v 0 → j < nn v 0 → s.1 a (ix i j) = m i j := hm
      rw [hm' k k hk hk]
      refine Rt_if (fun h0 => Rt_lt ?_) (fun h0 => ?_)
      · rw [w32s (by omega)]
        refine hnext (m k k, s) ⟨hs, Or.inl ⟨h0, ?_⟩⟩
        exact hB.sing hk h0
      · refine Rt_bd (elim_spec (t := t) (a := a) (mat_lap hv p) (mat_dgs hv p) hn6 hk hB h0 (μ0 := s) (by rw [lcN0 hcs]; omega) hm') (fun _ μ2 ⟨hμ2, hm2⟩ => Rt_lt ?_)
        rw [w32s (by omega)]
        exact hnext (m k k, μ2) ⟨hs.trans hμ2, Or.inr ⟨bnext k D m, hB.step (mat_lap hv p) hk h0, hm2⟩⟩
  · intro f s ⟨hs, hor⟩
    obtain ⟨D, s⟩ := s
    have hcs := kp s hs
    show Rt (k_X6_invert_19 t (f + 1) p (z : Int) a D (nn v 0 : Int) s) _
    rw [k_X6_invert_19, lcN0 hcs]
    refine Rt_neg (by omega) (fin D s hs ?_)
    rcases hor with ⟨h0, hdet⟩ | ⟨m, hB, hm⟩
    · have h0' : D = 0 := h0
      exact ⟨by omega, fun h => absurd hdet h⟩
    · have a1 := adj_of_BI hv hB
      have a2 : D = detv v p := a1.1
      exact ⟨a2, fun _ => ⟨m, a2 ▸ a1, hm⟩⟩
