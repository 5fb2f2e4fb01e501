/-! the search for the pattern, as the one side does it -/
theorem okp_fin {v : LV} (hv : wfL v) {p : Int} (h0 : 0 ≤ p) (h1 : p < 32) : ∃ (x : Fin 32) (R : Fin 4) (D : Fin 3), p = (x.1 : Int) ∧ v.2 2 = (R.1 : Int) ∧ v.2 3 = (D.1 : Int) ∧ nn v 2 = R.1 ∧ nn v 3 = D.1 := by
  have l2 := hv.2.2.1
  have l3 := hv.2.2.2.1
  refine ⟨⟨p.toNat, by omega⟩, ⟨(v.2 2).toNat, by omega⟩, ⟨(v.2 3).toNat, by omega⟩, ?_, ?_, ?_, rfl, rfl⟩
  · show p = ((p.toNat : Nat) : Int); omega
  · show v.2 2 = (((v.2 2).toNat : Nat) : Int); omega
  · show v.2 3 = (((v.2 3).toNat : Nat) : Int); omega
theorem okp_okb {v : LV} {p : Int} (h0 : 0 ≤ p) (h1 : p < 32) : okp v p ↔ okb p (v.2 2) (v.2 3) = true := by
  unfold okp okb
  rw [Bool.and_eq_true, decide_eq_true_eq, decide_eq_true_eq]
  exact ⟨fun h => h.2.2, fun h => ⟨h0, h1, h⟩⟩
theorem ok_turn {v : LV} (hv : wfL v) {p : Int} (h0 : 0 ≤ p) (h1 : p < 32) : gand p (gxor (pbits (v.2 2) (v.2 3)) (-1)) = 0 ↔ okp v p := by
  rw [okp_okb h0 h1]
  obtain ⟨x, R, D, e1, e2, e3, -⟩ := okp_fin hv h0 h1
  have := bitF1 x R D
  rw [e1, e2, e3, ← this, decide_eq_true_eq]
theorem ok_xor {v : LV} (hv : wfL v) {g x : Int} (hg : okp v g) (hx : okp v x) : okp v (gxor g x) ∧ gxor g (gxor g x) = x := by
  obtain ⟨g', R, D, e1, e2, e3, -⟩ := okp_fin hv hg.1 hg.2.1
  obtain ⟨x', R', D', f1, f2, f3, -⟩ := okp_fin hv hx.1 hx.2.1
  have a := bitF3 g' x'
  have b := bitF2 R D g' x'
  have hg2 := (okp_okb hg.1 hg.2.1).mp hg
  have hx2 := (okp_okb hx.1 hx.2.1).mp hx
  rw [e1, e2, e3] at hg2
  rw [f1, e2, e3] at hx2
  have c := b hg2 hx2
  rw [← e1, ← f1] at a c
  refine ⟨(okp_okb a.2.1 a.2.2).mpr ?_, a.1⟩
  rw [e2, e3]; exact c
theorem okp_eq {v : LV} (hv : wfL v) {p q : Int} (hp : okp v p) (hq : okp v q) (h1 : ∀ r, r < nn v 2 → (bt p r ↔ bt q r)) (h2 : ∀ d, d < nn v 3 → (bt p (d + 3) ↔ bt q (d + 3))) : p = q := by
  obtain ⟨x, R, D, e1, e2, e3, e4, e5⟩ := okp_fin hv hp.1 hp.2.1
  obtain ⟨y, R', D', f1, f2, f3, f4, f5⟩ := okp_fin hv hq.1 hq.2.1
  have hp2 := (okp_okb hp.1 hp.2.1).mp hp
  have hq2 := (okp_okb hq.1 hq.2.1).mp hq
  rw [e1, e2, e3] at hp2
  rw [f1, f2, f3] at hq2
  have a := bitF5 x R D hp2
  have b := bitF5 y R' D' hq2
  have s1 : ∀ r : Fin 3, ib p r.1 = ib q r.1 := fun r => by
    by_cases c : r.1 < nn v 2
    · unfold ib
      by_cases d : bt p r.1
      · rw [if_pos d, if_pos ((h1 _ c).mp d)]
      · rw [if_neg d, if_neg (fun z => d ((h1 _ c).mpr z))]
    · rw [e1, f1, a.1 r (by omega), b.1 r (by omega)]
  have s2 : ∀ d : Fin 2, ib p (d.1 + 3) = ib q (d.1 + 3) := fun r => by
    by_cases c : r.1 < nn v 3
    · unfold ib
      by_cases d : bt p (r.1 + 3)
      · rw [if_pos d, if_pos ((h2 _ c).mp d)]
      · rw [if_neg d, if_neg (fun z => d ((h2 _ c).mpr z))]
    · rw [e1, f1, a.2 r (by omega), b.2 r (by omega)]
  have u := bitF4 x
  have w := bitF4 y
  rw [← e1] at u
  rw [← f1] at w
  have t0 : ib p 0 = ib q 0 := s1 ⟨0, by omega⟩
  have t1 : ib p 1 = ib q 1 := s1 ⟨1, by omega⟩
  have t2 : ib p 2 = ib q 2 := s1 ⟨2, by omega⟩
  have t3 : ib p 3 = ib q 3 := s2 ⟨0, by omega⟩
  have t4 : ib p 4 = ib q 4 := s2 ⟨1, by omega⟩
  omega
theorem isR_uniq {v : LV} (hv : wfL v) {p q : Int} (hp : okp v p) (hq : okp v q) (rp : isR v p) (rq : isR v q) : p = q :=
  okp_eq hv hp hq (uniq_heads hv rp rq).1 (uniq_heads hv rp rq).2
def hasR (v : LV) : Prop := nn v 0 ≠ 0 ∧ ∃ p, okp v p ∧ isR v p
def PR (t : Nat) : Nat → Prop := fun k => t < k ∧ k < t + 6 + gSl t
def FR (t : Nat) : Nat → Nat → Prop := fun k j => k = t ∧ (j = 7 ∨ j = 8)
def cacheOK (v : LV) (t : Nat) (μ : GM) : Prop := ∀ z : Nat, z < gSl t → μ.1 (t + 1) z ≠ -10000009 → slotOK v t μ z (μ.1 (t + 1) z)
def restAt (v : LV) (t : Nat) (μ : GM) (p : Int) : Prop := nn v 0 ≠ 0 ∧ okp v p ∧ isR v p ∧ μ.2 t 7 = detv v p ∧ μ.2 t 8 = p ∧ ∀ c : Nat, c < nn v 0 → μ.1 (t + 5) c = upv v p c
theorem slot_keep {v : LV} {t : Nat} {μ ν : GM} {z : Nat} {p : Int} (h : slotOK v t μ z p) (h1 : ν.1 (t + 3) z = μ.1 (t + 3) z) (h2 : ν.1 (t + 6 + z) = μ.1 (t + 6 + z)) : slotOK v t ν z p := by
  refine ⟨h1.trans h.1, fun hd => ?_⟩
  obtain ⟨m, a, b⟩ := h.2 hd
  exact ⟨m, a, fun i j hi hj => by rw [h2]; exact b i j hi hj⟩
theorem cache_keep {v : LV} {t : Nat} {μ ν : GM} (h : cacheOK v t μ) (h1 : ν.1 (t + 1) = μ.1 (t + 1)) (h3 : ν.1 (t + 3) = μ.1 (t + 3)) (h6 : ∀ z, z < gSl t → ν.1 (t + 6 + z) = μ.1 (t + 6 + z)) : cacheOK v t ν := by
  intro z hz hne
  rw [h1] at hne ⊢
  exact slot_keep (h z hz hne) (by rw [h3]) (h6 z hz)
theorem settle_spec {t b : Nat} (ht : gRt t) {v : LV} (hv : wfL v) (hb : b < 53) {μ0 : GM} (hc : cV b μ0 = v) (hsl : μ0.2 t 1 = (gSl t : Int)) (hca : cacheOK v t μ0) (hg : okp v (μ0.2 t 8)) :
    Rt (f_X6_settle t b μ0) (fun r μ => ofr (PR t) (FR t) μ0 μ ∧ cacheOK v t μ ∧ okp v (μ.2 t 8) ∧ ((r = 1 ∧ ∃ p, restAt v t μ p) ∨ (r = 0 ∧ ¬ hasR v))) := by
  have ht94 : 94 ≤ t := by rcases ht with h | h <;> omega
  have hgs : gSl t = 32 ∨ gSl t = 1 := by rcases ht with h | h <;> subst h <;> simp [gSl]
  have n0 := nn_c hv 0 (by omega)
  have l0 := hv.1
  have kp : ∀ s, ofr (PR t) (FR t) μ0 s → cV b s = v := fun s h => (cV_keep h (fun k hk z => by unfold PR at z; omega) (fun k j hk z => by unfold FR at z; omega) (fun z => by unfold PR at z; omega)).trans hc
  unfold f_X6_settle
  rw [lcN0 hc]
  refine Rt_if (fun q0 => Rt_some ⟨ofr.rfl, hca, hg, Or.inr ⟨rfl, fun h => h.1 (by omega)⟩⟩) (fun q0 => Rt_neg (by rw [hsl]; omega) ?_)
  unfold f_X2_patternBits
  refine Rt_bde rfl (Rt_lt ?_)
  rw [lcN2 hc, lcN3 hc]
  show Rt (k_X6_settle_36 t b FU (pbits (v.2 2) (v.2 3)) (μ0.2 t 8) ((0 : Nat) : Int) μ0) _
  obtain ⟨g, hgd⟩ : ∃ g, g = μ0.2 t 8 := ⟨_, rfl⟩
  rw [← hgd] at hg ⊢
  refine Rt_loop (fun f z s => k_X6_settle_36 t b f (pbits (v.2 2) (v.2 3)) g z s) _ 32 (fun z s => ofr (PR t) (FR t) μ0 s ∧ s.2 t 8 = g ∧ cacheOK v t s ∧ ∀ x : Nat, x < z → okp v x → ¬ isR v (gxor g x)) ?_ ?_ FU 0 μ0 (by omega) (FU_gt (by omega)) ⟨ofr.rfl, hgd.symm, hca, fun x h => by omega⟩
  · intro f z s hz ⟨hs, hg8, hcs, hno⟩ hnext
    have hcv := kp s hs
    show Rt (k_X6_settle_36 t b (f + 1) (pbits (v.2 2) (v.2 3)) g (z : Int) s) _
    rw [k_X6_settle_36]
    have hok := ok_turn hv (p := (z : Int)) (by omega) (by omega)
    refine Rt_pos (by omega) (Rt_if (fun q => Rt_lt ?_) (fun q => Rt_lt ?_))
    · have hzok := hok.mp q
      have hx := ok_xor hv hg hzok
      obtain ⟨p, hp⟩ : ∃ p, p = gxor g (z : Int) := ⟨_, rfl⟩
      rw [← hp] at hx ⊢
      have p0 := hx.1.1
      have p1 := hx.1.2.1
      have hs1 : s.2 t 1 = (gSl t : Int) := (hs.2 t 1 (fun z => by unfold FR at z; omega)).trans hsl
      rw [hs1]
      refine Rt_ck (by omega) (Rt_lt ?_)
      obtain ⟨w, hw, hw2⟩ : ∃ w : Nat, Int.tmod p (gSl t : Int) = (w : Int) ∧ w < gSl t := by
        refine ⟨(Int.tmod p (gSl t : Int)).toNat, ?_, ?_⟩
        · have := Int.tmod_nonneg (gSl t : Int) p0; omega
        · have := Int.tmod_lt_of_pos p (show (0 : Int) < (gSl t : Int) by omega); omega
      rw [hw]
      refine Rt_ck (by omega) ?_
      -- what goes on once the slot holds the pattern
      have main : ∀ s2 : GM, ofr (PR t) (FR t) μ0 s2 → s2.2 t 8 = g → cacheOK v t s2 → slotOK v t s2 w p → Rt (k_X6_settle_90 (k_X6_settle_36 t b f) t b (pbits (v.2 2) (v.2 3)) g (z : Int) p (w : Int) s2) (fun r μ => ofr (PR t) (FR t) μ0 μ ∧ cacheOK v t μ ∧ okp v (μ.2 t 8) ∧ ((r = 1 ∧ ∃ p, restAt v t μ p) ∨ (r = 0 ∧ ¬ hasR v))) := by
        intro s2 h2 h8 hc2 hsl2
        have on : ∀ s3 : GM, ofr (PR t) (FR t) μ0 s3 → s3.2 t 8 = g → cacheOK v t s3 → ¬ isR v p → Rt (k_X6_settle_36 t b f (pbits (v.2 2) (v.2 3)) g (w32 ((z : Int) + 1)) s3) (fun r μ => ofr (PR t) (FR t) μ0 μ ∧ cacheOK v t μ ∧ okp v (μ.2 t 8) ∧ ((r = 1 ∧ ∃ p, restAt v t μ p) ∨ (r = 0 ∧ ¬ hasR v))) := fun s3 k1 k2 k3 k4 => by
          rw [w32s (by omega)]
          refine hnext s3 ⟨k1, k2, k3, fun x hx2 hxo => ?_⟩
          by_cases e : x = z
          · subst e; rw [← hp]; exact k4
          · exact hno x (by omega) hxo
        unfold k_X6_settle_90
        refine Rt_ck (by omega) ?_
        rw [hsl2.1]
        refine Rt_if (fun d0 => Rt_lt ?_) (fun d0 => Rt_ck (by omega) (Rt_lm ?_))
        · exact on s2 h2 h8 hc2 (fun h => h.1 d0)
        · obtain ⟨m, hadj, hm⟩ := hsl2.2 d0
          have f1 : ofr (PR t) (FR t) μ0 (gF s2 t 7 (detv v p)) := h2.f (show FR t t 7 from ⟨rfl, Or.inl rfl⟩)
          refine Rt_bd (gsrc_spec ht hv hb (p := p) (kp _ f1)) (fun _ s4 ⟨h4, hsrc⟩ => Rt_ck (by omega) ?_)
          have f4 : ofr (PR t) (FR t) μ0 s4 := f1.trans (h4.mono (fun k hk => by unfold PR; omega) (fun _ _ z => z.elim))
          have d7 : s4.2 t 7 = detv v p := (h4.2 t 7 (fun z => z)).trans (gF_same _ _ _ _)
          have d8 : s4.2 t 8 = g := (h4.2 t 8 (fun z => z)).trans ((gF_ne _ _ (by omega)).trans h8)
          have c4 : cacheOK v t s4 := cache_keep hc2 (by rw [h4.1 (t + 1) (by omega)]; rfl) (by rw [h4.1 (t + 3) (by omega)]; rfl) (fun z _ => by rw [h4.1 (t + 6 + z) (by omega)]; rfl)
          rw [Int.toNat_natCast]
          refine Rt_bd (fits_spec (t := t) (a := t + 6 + w) ht hv hb (by omega) (kp _ f4) hadj (fun i j hi hj => by rw [h4.1 (t + 6 + w) (by omega)]; exact hm i j hi hj) hsrc d7) (fun r s5 h5 => ?_)
          rcases h5 with ⟨r1, hfit, hf5, htops⟩ | ⟨r0, hnf, e5⟩
          · refine Rt_neg (by omega) (Rt_lm (Rt_some ⟨?_, ?_, ?_, Or.inl ⟨rfl, p, ?_⟩⟩))
            · exact (f4.trans (hf5.mono (fun k hk => by unfold PR; omega) (fun _ _ z => z.elim))).f (show FR t t 8 from ⟨rfl, Or.inr rfl⟩)
            · exact cache_keep c4 (by rw [gF_1, hf5.1 (t + 1) (by omega)]) (by rw [gF_1, hf5.1 (t + 3) (by omega)]) (fun z _ => by rw [gF_1, hf5.1 (t + 6 + z) (by omega)])
            · rw [gF_same]; exact hx.1
            · refine ⟨by omega, hx.1, ⟨d0, hfit⟩, ?_, gF_same _ _ _ _, fun c hc2 => ?_⟩
              · rw [gF_ne _ _ (by omega), hf5.2 t 7 (fun z => z)]; exact d7
              · rw [gF_1]; exact htops c hc2
          · subst e5
            exact Rt_pos r0 (Rt_lt (on s5 f4 d8 c4 (fun h => hnf h.2)))
      refine Rt_if (fun e => ?_) (fun e => ?_)
      · refine main s hs hg8 hcs ?_
        have a := hcs w hw2 (by rw [e]; omega)
        rw [e] at a
        exact a
      · refine Rt_bd (invert_spec ht (p := p) hv hb hw2 hcv) (fun _ s2 ⟨h2, h21, h22, h23⟩ => ?_)
        refine main s2 (hs.trans (h2.mono (fun k hk => by unfold PR; omega) (fun _ _ z => z.elim))) ((h2.2 t 8 (fun z => z)).trans hg8) ?_ h22
        intro z2 hz2 hne
        by_cases e2 : z2 = w
        · subst e2; rw [h21]; exact h22
        · have a := h23 (z2 : Int) (by omega)
          rw [a.1] at hne ⊢
          exact slot_keep (hcs z2 hz2 hne) a.2 (h2.1 _ (by omega))
    · rw [w32s (by omega)]
      refine hnext s ⟨hs, hg8, hcs, fun x hx2 hxo => ?_⟩
      by_cases e : x = z
      · subst e; exact absurd (hok.mpr hxo) q
      · exact hno x (by omega) hxo
  · intro f s ⟨hs, hg8, hcs, hno⟩
    show Rt (k_X6_settle_36 t b (f + 1) (pbits (v.2 2) (v.2 3)) g ((32 : Nat) : Int) s) _
    rw [k_X6_settle_36]
    refine Rt_neg (by omega) (Rt_some ⟨hs, hcs, by rw [hg8]; exact hg, Or.inr ⟨rfl, fun h => ?_⟩⟩)
    obtain ⟨-, p, hp, hr⟩ := h
    have hx := ok_xor hv hg hp
    have a := hno (gxor g p).toNat (by have := hx.1.1; have := hx.1.2.1; omega) (by rw [show (((gxor g p).toNat : Nat) : Int) = gxor g p by have := hx.1.1; omega]; exact hx.1)
    rw [show (((gxor g p).toNat : Nat) : Int) = gxor g p by have := hx.1.1; omega, hx.2] at a
    exact a hr
