/-! the search for the pattern, as the other side does it -/
theorem mfits_spec {e a : Nat} {p : Int} {v : LV} (hv : wfL v) {s : GM} (hc : mV e a s = v) (hd : detv v p ≠ 0) (hD : s.2 53 24 = detv v p) (hu : ∀ c : Nat, c < nn v 0 → s.1 71 c = upv v p c) :
    Rt (f_X12_fits p s) (fun r μ => μ = s ∧ ((r = 1 ∧ fitv v p) ∨ (r = 0 ∧ ¬ fitv v p))) := by
  have n0 := nn_c hv 0 (by omega)
  have n2 := nn_c hv 2 (by omega)
  have n3 := nn_c hv 3 (by omega)
  have l0 := hv.1
  have l2 := hv.2.2.1
  have l3 := hv.2.2.2.1
  have dr := det_range hv p
  unfold f_X12_fits
  refine Rt_loop (fun f z (q : Int × GM) => k_X12_fits_4 f p q.1 z q.2) _ (nn v 2) (fun z q => q.2 = s ∧ ((q.1 = 1 ∧ ∀ r, r < z → (v.1 8 r * detv v p ≤ upv v p (v.1 6 r).toNat ↔ bt p r)) ∨ (q.1 = 0 ∧ ¬ fitv v p))) ?_ ?_ FU 0 (1, s) (by omega) (FU_gt (by omega)) ⟨rfl, Or.inl ⟨rfl, fun r h => by omega⟩⟩
  · intro f z q hz ⟨e1, hor⟩ hnext
    obtain ⟨q1, q2⟩ := q
    have e1' : q2 = s := e1
    subst e1'
    have h := hv.2.2.2.2.2.2.2.1 z hz
    obtain ⟨x, hx⟩ : ∃ x : Nat, v.1 6 z = x := ⟨(v.1 6 z).toNat, by omega⟩
    show Rt (k_X12_fits_4 (f + 1) p q1 (z : Int) q2) _
    rw [k_X12_fits_4, lmN2 hc, lmA6 hc, lmA8 hc, hx, hD, hu x (by omega)]
    refine Rt_pos (by omega) ?_
    rcases hor with ⟨a1, hall⟩ | ⟨a0, hnf⟩
    · have a1' : q1 = 1 := a1
      subst a1'
      have bD := mul_mono (a := v.1 8 z) (b := 1000) (c := detv v p) (d := 6780000000) (by omega) (by omega) (by omega) (by omega)
      have bD0 := Int.mul_nonneg (show 0 ≤ v.1 8 z by omega) (show 0 ≤ detv v p by omega)
      rw [w64i (by omega) (by omega)]
      have good : (v.1 8 z * detv v p ≤ upv v p x ↔ bt p z) → Rt (k_X12_fits_4 f p 1 ((z + 1 : Nat) : Int) q2) (fun r μ => μ = q2 ∧ ((r = 1 ∧ fitv v p) ∨ (r = 0 ∧ ¬ fitv v p))) := fun hiff => hnext (1, q2) ⟨rfl, Or.inl ⟨rfl, fun r hr2 => by
        by_cases qq : r = z
        · subst qq; rw [hx, Int.toNat_natCast]; exact hiff
        · exact hall r (by omega)⟩⟩
      have bad : ¬ (v.1 8 z * detv v p ≤ upv v p x ↔ bt p z) → Rt (k_X12_fits_4 f p 0 ((z + 1 : Nat) : Int) q2) (fun r μ => μ = q2 ∧ ((r = 1 ∧ fitv v p) ∨ (r = 0 ∧ ¬ fitv v p))) := fun hn => hnext (0, q2) ⟨rfl, Or.inr ⟨rfl, fun hf => hn (by have := hf.1 z hz; rw [hx, Int.toNat_natCast] at this; exact this)⟩⟩
      refine Rt_neg (by decide) (Rt_ck (by omega) (Rt_ck (by omega) (Rt_ck (by omega) (Rt_if (fun c1 => ?_) (fun c1 => ?_)))))
      · unfold k_X12_fits_48
        refine Rt_if (fun c2 => ?_) (fun c2 => ?_)
        · unfold k_X12_fits_62
          refine Rt_neg (by decide) (Rt_lt ?_)
          rw [w32s (by omega)]
          exact bad (fun hn => by have := hn.mpr c2; omega)
        · unfold k_X12_fits_62
          refine Rt_pos rfl (Rt_lt ?_)
          rw [w32s (by omega)]
          exact good ⟨fun h => by omega, fun h => absurd h c2⟩
      · unfold k_X12_fits_48
        refine Rt_if (fun c2 => ?_) (fun c2 => ?_)
        · unfold k_X12_fits_62
          refine Rt_pos rfl (Rt_lt ?_)
          rw [w32s (by omega)]
          exact good ⟨fun _ => c2, fun _ => by omega⟩
        · unfold k_X12_fits_62
          refine Rt_neg (by decide) (Rt_lt ?_)
          rw [w32s (by omega)]
          exact bad (fun hn => c2 (hn.mp (by omega)))
    · have a0' : q1 = 0 := a0
      subst a0'
      refine Rt_pos rfl (Rt_lt ?_)
      rw [w32s (by omega)]
      exact hnext (0, q2) ⟨rfl, Or.inr ⟨rfl, hnf⟩⟩
  intro f q ⟨e1, hor0⟩
  obtain ⟨q1, q2⟩ := q
  have e1' : q2 = s := e1
  subst e1'
  show Rt (k_X12_fits_4 (f + 1) p q1 (nn v 2 : Int) q2) _
  rw [k_X12_fits_4, lmN2 hc]
  refine Rt_neg (by omega) ?_
  refine Rt_loop (fun f z (q : Int × GM) => k_X12_fits_79 f p q.1 z q.2) _ (nn v 3) (fun z q => q.2 = q2 ∧ ((q.1 = 1 ∧ (∀ r, r < nn v 2 → (v.1 8 r * detv v p ≤ upv v p (v.1 6 r).toNat ↔ bt p r)) ∧ ∀ d, d < z → (v.1 11 d * detv v p < upv v p (v.1 10 d).toNat ↔ bt p (d + 3))) ∨ (q.1 = 0 ∧ ¬ fitv v p))) ?_ ?_ FU 0 (q1, q2) (by omega) (FU_gt (by omega)) ⟨rfl, hor0.imp (fun h => ⟨h.1, h.2, fun r h => by omega⟩) id⟩
  · intro f z q hz ⟨e1, hor⟩ hnext
    obtain ⟨q3, q4⟩ := q
    have e1' : q4 = q2 := e1
    subst e1'
    have h := hv.2.2.2.2.2.2.2.2.1 z hz
    obtain ⟨x, hx⟩ : ∃ x : Nat, v.1 10 z = x := ⟨(v.1 10 z).toNat, by omega⟩
    have e3 : w32 ((z : Int) + 3) = ((z + 3 : Nat) : Int) := by rw [w32i (by omega) (by omega)]; omega
    show Rt (k_X12_fits_79 (f + 1) p q3 (z : Int) q4) _
    rw [k_X12_fits_79, lmN3 hc, lmA10 hc, lmA11 hc, hx, hD, hu x (by omega)]
    refine Rt_pos (by omega) ?_
    rcases hor with ⟨a1, hrr, hall⟩ | ⟨a0, hnf⟩
    · have a1' : q3 = 1 := a1
      subst a1'
      have bD := mul_mono (a := v.1 11 z) (b := 1000) (c := detv v p) (d := 6780000000) (by omega) (by omega) (by omega) (by omega)
      have bD0 := Int.mul_nonneg (show 0 ≤ v.1 11 z by omega) (show 0 ≤ detv v p by omega)
      rw [w64i (by omega) (by omega)]
      have good : (v.1 11 z * detv v p < upv v p x ↔ bt p (z + 3)) → Rt (k_X12_fits_79 f p 1 ((z + 1 : Nat) : Int) q4) (fun r μ => μ = q4 ∧ ((r = 1 ∧ fitv v p) ∨ (r = 0 ∧ ¬ fitv v p))) := fun hiff => hnext (1, q4) ⟨rfl, Or.inl ⟨rfl, hrr, fun r hr2 => by
        by_cases qq : r = z
        · subst qq; rw [hx, Int.toNat_natCast]; exact hiff
        · exact hall r (by omega)⟩⟩
      have bad : ¬ (v.1 11 z * detv v p < upv v p x ↔ bt p (z + 3)) → Rt (k_X12_fits_79 f p 0 ((z + 1 : Nat) : Int) q4) (fun r μ => μ = q4 ∧ ((r = 1 ∧ fitv v p) ∨ (r = 0 ∧ ¬ fitv v p))) := fun hn => hnext (0, q4) ⟨rfl, Or.inr ⟨rfl, fun hf => hn (by have := hf.2 z hz; rw [hx, Int.toNat_natCast] at this; exact this)⟩⟩
      refine Rt_neg (by decide) (Rt_ck (by omega) (Rt_ck (by omega) (Rt_ck (by omega) (Rt_if (fun c1 => ?_) (fun c1 => ?_)))))
      · unfold k_X12_fits_123
        rw [e3]
        refine Rt_if (fun c2 => ?_) (fun c2 => ?_)
        · unfold k_X12_fits_139
          refine Rt_pos rfl (Rt_lt ?_)
          rw [w32s (by omega)]
          exact good ⟨fun _ => c2, fun _ => c1⟩
        · unfold k_X12_fits_139
          refine Rt_neg (by decide) (Rt_lt ?_)
          rw [w32s (by omega)]
          exact bad (fun hn => c2 (hn.mp c1))
      · unfold k_X12_fits_123
        rw [e3]
        refine Rt_if (fun c2 => ?_) (fun c2 => ?_)
        · unfold k_X12_fits_139
          refine Rt_neg (by decide) (Rt_lt ?_)
          rw [w32s (by omega)]
          exact bad (fun hn => c1 (hn.mpr c2))
        · unfold k_X12_fits_139
          refine Rt_pos rfl (Rt_lt ?_)
          rw [w32s (by omega)]
          exact good ⟨fun h => absurd h c1, fun h => absurd h c2⟩
    · have a0' : q3 = 0 := a0
      subst a0'
      refine Rt_pos rfl (Rt_lt ?_)
      rw [w32s (by omega)]
      exact hnext (0, q4) ⟨rfl, Or.inr ⟨rfl, hnf⟩⟩
  intro f q ⟨e1, hor⟩
  obtain ⟨q3, q4⟩ := q
  have e1' : q4 = q2 := e1
  subst e1'
  show Rt (k_X12_fits_79 (f + 1) p q3 (nn v 3 : Int) q4) _
  rw [k_X12_fits_79, lmN3 hc]
  refine Rt_neg (by omega) (Rt_some ⟨rfl, ?_⟩)
  rcases hor with ⟨a1, hrr, hall⟩ | ⟨a0, hnf⟩
  · have a1' : q3 = 1 := a1
    subst a1'
    exact Or.inl ⟨rfl, hrr, hall⟩
  · have a0' : q3 = 0 := a0
    subst a0'
    exact Or.inr ⟨rfl, hnf⟩
def PS : Nat → Prop := fun k => k = 71 ∨ k = 74 ∨ k = 75 ∨ k = 76
def FS : Nat → Nat → Prop := fun k j => k = 53 ∧ (j = 24 ∨ j = 25)
def restM (v : LV) (μ : GM) (p : Int) : Prop := nn v 0 ≠ 0 ∧ okp v p ∧ isR v p ∧ μ.2 53 24 = detv v p ∧ μ.2 53 25 = p ∧ ∀ c : Nat, c < nn v 0 → μ.1 71 c = upv v p c
theorem solves_spec {v : LV} (hv : wfL v) {μ0 : GM} (hc : mV 72 73 μ0 = v) :
    Rt (f_X12_solves μ0) (fun r μ => ofr PS FS μ0 μ ∧ ((r = 1 ∧ ∃ p, restM v μ p) ∨ (r = 0 ∧ ¬ hasR v))) := by
  have kp : ∀ s, ofr PS FS μ0 s → mV 72 73 s = v := fun s h => (mV_keep h (fun k _ _ => by unfold PS; omega) (fun _ _ _ z => by unfold FS at z; omega) (by unfold PS; omega) (by unfold PS; omega)).trans hc
  have n0 := nn_c hv 0 (by omega)
  have l0 := hv.1
  have hn6 := n6 hv
  have f76 : ∀ {s s' : GM}, ofr P76 nF s s' → ofr PS FS s s' := fun h => h.mono (fun k hk => by unfold P76 at hk; unfold PS; omega) (fun _ _ z => z.elim)
  have fL : ∀ {s s' : GM}, ofr PL nF s s' → ofr PS FS s s' := fun h => h.mono (fun k hk => by unfold PL at hk; unfold PS; omega) (fun _ _ z => z.elim)
  unfold f_X12_solves
  refine Rt_lm ?_
  have h1 : ofr PS FS μ0 (gF μ0 53 25 (-10000009)) := ofr.rfl.f (show FS 53 25 from ⟨rfl, Or.inr rfl⟩)
  by_cases q0 : nn v 0 = 0
  · show Rt (k_X12_solves_8 (4999 + 1) 0 _) _
    rw [k_X12_solves_8, lmN0 (kp _ h1)]
    exact Rt_pos (by decide) (Rt_neg (by omega) (Rt_some ⟨h1, Or.inr ⟨rfl, fun h => h.1 q0⟩⟩))
  refine Rt_loop (fun f z s => k_X12_solves_8 f z s) _ 32 (fun z s => ofr PS FS μ0 s ∧ ∀ x : Nat, x < z → okp v x → ¬ isR v x) ?_ ?_ FU 0 _ (by omega) (FU_gt (by omega)) ⟨h1, fun x h => by omega⟩
  · intro f z s hz ⟨hs, hno⟩ hnext
    have hcv := kp s hs
    show Rt (k_X12_solves_8 (f + 1) (z : Int) s) _
    rw [k_X12_solves_8, lmN0 hcv, lmN2 hcv, lmN3 hcv]
    have on : ∀ s3 : GM, ofr PS FS μ0 s3 → (okp v (z : Int) → ¬ isR v (z : Int)) → Rt (k_X12_solves_8 f (w32 ((z : Int) + 1)) s3) (fun r μ => ofr PS FS μ0 μ ∧ ((r = 1 ∧ ∃ p, restM v μ p) ∨ (r = 0 ∧ ¬ hasR v))) := fun s3 k1 k4 => by
      rw [w32s (by omega)]
      refine hnext s3 ⟨k1, fun x hx2 hxo => ?_⟩
      by_cases e : x = z
      · subst e; exact k4 hxo
      · exact hno x (by omega) hxo
    refine Rt_pos (by omega) (Rt_pos (by omega) (Rt_if (fun o1 => Rt_if (fun o2 => ?_) (fun o2 => Rt_lt (on s hs (fun h => absurd h.2.2.2 o2)))) (fun o1 => Rt_lt (on s hs (fun h => absurd h.2.2.1 o1)))))
    have hok : okp v (z : Int) := ⟨by omega, by omega, o1, o2⟩
    obtain ⟨p, hp⟩ : ∃ p, p = (z : Int) := ⟨_, rfl⟩
    rw [← hp] at hok ⊢
    refine Rt_bd (lay_spec hv (p := p) hcv) (fun _ s2 ⟨h2, hA, hB⟩ => ?_)
    have g2 := hs.trans (fL h2)
    have c2 := kp s2 g2
    have hl0 : dt (nn v 0) (laid s2 (-10000009)) = detv v p := dt_congr _ _ _ (fun i j hi hj => by
      unfold laid
      rw [if_neg (by omega)]
      exact hA i j (by omega) (by omega))
    have dr := det_range hv p
    refine Rt_bd (whole_spec (n := nn v 0) hn6 (μ0 := s2) (by rw [lmN0 c2]; omega) (-10000009) s2 ofr.rfl (by rw [hl0]; omega) (by rw [hl0]; omega)) (fun x5 s3 ⟨h3, e5⟩ => Rt_lm ?_)
    rw [hl0] at e5
    have g4 : ofr PS FS μ0 (gF s3 53 24 x5) := (g2.trans (f76 h3)).f (show FS 53 24 from ⟨rfl, Or.inl rfl⟩)
    obtain ⟨s4, hs4⟩ : ∃ s4, s4 = gF s3 53 24 x5 := ⟨_, rfl⟩
    rw [← hs4] at g4 ⊢
    have low4 : s4.2 53 24 = detv v p := by rw [hs4, gF_same]; exact e5
    have A4 : ∀ i j, i < 6 → j < 6 → s4.1 74 (ix i j) = mat v p i j := fun i j hi hj => by rw [hs4, gF_1, h3.1 74 (by unfold P76; omega)]; exact hA i j hi hj
    have B4 : ∀ i : Nat, i < nn v 0 → s4.1 75 i = src v p i := fun i hi => by rw [hs4, gF_1, h3.1 75 (by unfold P76; omega)]; exact hB i hi
    rw [low4]
    refine Rt_if (fun d0 => Rt_lt ?_) (fun d0 => ?_)
    · have := on s4 g4 (fun _ hr => by rw [← hp] at hr; exact hr.1 d0)
      rw [← hp] at this
      exact this
    refine Rt_loop (fun f' c s' => k_X12_solves_70 (k_X12_solves_8 f) f' p c s') _ (nn v 0) (fun c s' => ofr PS FS μ0 s' ∧ s'.2 53 24 = detv v p ∧ (∀ i j, i < 6 → j < 6 → s'.1 74 (ix i j) = mat v p i j) ∧ (∀ i : Nat, i < nn v 0 → s'.1 75 i = src v p i) ∧ ∀ i : Nat, i < c → s'.1 71 i = upv v p i) ?_ ?_ FU 0 s4 (by omega) (FU_gt (by omega)) ⟨g4, low4, A4, B4, fun i h => by omega⟩
    · intro f2 c s5 hc5 ⟨g5, low5, A5, B5, U5⟩ hnext2
      have c5 := kp s5 g5
      show Rt (k_X12_solves_70 (k_X12_solves_8 f) (f2 + 1) p (c : Int) s5) _
      rw [k_X12_solves_70, lmN0 c5, low5]
      have hlc : dt (nn v 0) (laid s5 (c : Int)) = upv v p c := dt_congr _ _ _ (fun i j hi hj => by
        unfold laid setc
        by_cases e : j = c
        · rw [if_pos (by omega), if_pos e]; exact B5 i hi
        · rw [if_neg (by omega), if_neg e]; exact A5 i j (by omega) (by omega))
      have ur := up_range hv d0 hc5
      refine Rt_pos (by omega) (Rt_neg (by omega) (Rt_bd (whole_spec (n := nn v 0) hn6 (μ0 := s5) (by rw [lmN0 c5]; omega) (c : Int) s5 ofr.rfl (by rw [hlc]; omega) (by rw [hlc]; omega)) (fun x6 s6 ⟨h6, e6⟩ => Rt_ck (by omega) (Rt_lm (Rt_lt ?_)))))
      rw [hlc] at e6
      rw [w32s (by omega)]
      refine hnext2 _ ⟨(g5.trans (f76 h6)).a (show PS 71 from Or.inl rfl), ?_, fun i j hi hj => ?_, fun i hi => ?_, fun i hi => ?_⟩
      · rw [gA_2, h6.2 53 24 (fun z => z)]; exact low5
      · rw [gA_nk _ _ _ (by decide), h6.1 74 (by unfold P76; omega)]; exact A5 i j hi hj
      · rw [gA_nk _ _ _ (by decide), h6.1 75 (by unfold P76; omega)]; exact B5 i hi
      · rw [gA_at]
        by_cases e : (i : Int) = (c : Int)
        · rw [if_pos e, e6, show i = c by omega]
        · rw [if_neg e, h6.1 71 (by unfold P76; omega)]; exact U5 i (by omega)
    · intro f2 s5 ⟨g5, low5, A5, B5, U5⟩
      have c5 := kp s5 g5
      show Rt (k_X12_solves_70 (k_X12_solves_8 f) (f2 + 1) p (nn v 0 : Int) s5) _
      rw [k_X12_solves_70, lmN0 c5, low5]
      refine Rt_neg (by omega) (Rt_neg (by omega) ?_)
      unfold k_X12_solves_135
      refine Rt_lm ?_
      have g6 : ofr PS FS μ0 (gF s5 53 24 (detv v p)) := g5.f (show FS 53 24 from ⟨rfl, Or.inl rfl⟩)
      refine Rt_bd (mfits_spec hv (kp _ g6) d0 (gF_same _ _ _ _) (fun c hc => by rw [gF_1]; exact U5 c hc)) (fun r s7 ⟨e7, hor⟩ => ?_)
      subst e7
      rcases hor with ⟨r1, hf⟩ | ⟨r0, hnf⟩
      · refine Rt_neg (by omega) (Rt_lm (Rt_some ⟨g6.f (show FS 53 25 from ⟨rfl, Or.inr rfl⟩), Or.inl ⟨rfl, p, q0, hok, ⟨d0, hf⟩, ?_, gF_same _ _ _ _, fun c hc => ?_⟩⟩))
        · rw [gF_ne _ _ (by omega), gF_same]
        · rw [gF_1, gF_1]; exact U5 c hc
      · refine Rt_pos r0 (Rt_lt ?_)
        have := on _ g6 (fun _ hr => by rw [← hp] at hr; exact hnf hr.2)
        rw [← hp] at this
        exact this
  · intro f s ⟨hs, hno⟩
    show Rt (k_X12_solves_8 (f + 1) ((32 : Nat) : Int) s) _
    rw [k_X12_solves_8]
    refine Rt_neg (by omega) (Rt_some ⟨hs, Or.inr ⟨rfl, fun h => ?_⟩⟩)
    obtain ⟨-, p, hp, hr⟩ := h
    have := hno p.toNat (by have := hp.1; have := hp.2.1; omega) (by rw [show ((p.toNat : Nat) : Int) = p by have := hp.1; omega]; exact hp)
    rw [show ((p.toNat : Nat) : Int) = p by have := hp.1; omega] at this
    exact this hr
