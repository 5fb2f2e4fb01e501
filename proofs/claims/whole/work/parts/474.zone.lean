/-! zones: what reaches a well -/
theorem zb1 : ∀ (s : Fin 64) (i j : Fin 6), (0 ≤ gor (s.1 : Int) (gshl 1 (i.1 : Int)) ∧ gor (s.1 : Int) (gshl 1 (i.1 : Int)) < 64) ∧ (decide (bt (gor (s.1 : Int) (gshl 1 (i.1 : Int))) j.1) = (decide (bt (s.1 : Int) j.1) || decide (j.1 = i.1))) := by decide +kernel
theorem zb2 : ∀ (s : Fin 64) (i : Fin 6), decide (gand (s.1 : Int) (gshl 1 (i.1 : Int)) = 0) = !decide (bt (s.1 : Int) i.1) := by decide +kernel
theorem zb3 : ∀ (s : Fin 64), gor (s.1 : Int) 0 = (s.1 : Int) ∧ (s.1 : Int) = ib (s.1 : Int) 0 + 2 * ib (s.1 : Int) 1 + 4 * ib (s.1 : Int) 2 + 8 * ib (s.1 : Int) 3 + 16 * ib (s.1 : Int) 4 + 32 * ib (s.1 : Int) 5 := by decide +kernel
theorem zb4 : ∀ (i j : Fin 6), (0 ≤ gshl 1 (i.1 : Int) ∧ gshl 1 (i.1 : Int) < 64) ∧ decide (bt (gshl 1 (i.1 : Int)) j.1) = decide (j.1 = i.1) := by decide +kernel
theorem zb5 : ∀ j : Fin 6, ¬ bt 0 j.1 := by decide +kernel
def sR (S : Int) : Prop := 0 ≤ S ∧ S < 64
theorem s_or {S : Int} (h : sR S) {i : Nat} (hi : i < 6) : sR (gor S (gshl 1 (i : Int))) ∧ ∀ j, j < 6 → (bt (gor S (gshl 1 (i : Int))) j ↔ bt S j ∨ j = i) := by
  obtain ⟨s, hs⟩ : ∃ s : Fin 64, S = (s.1 : Int) := ⟨⟨S.toNat, by have := h.1; have := h.2; omega⟩, by show S = ((S.toNat : Nat) : Int); have := h.1; omega⟩
  subst hs
  refine ⟨(zb1 s ⟨i, hi⟩ ⟨0, by omega⟩).1, fun j hj => ?_⟩
  have a := (zb1 s ⟨i, hi⟩ ⟨j, hj⟩).2
  have b : decide (bt (gor (s.1 : Int) (gshl 1 (i : Int))) j) = (decide (bt (s.1 : Int) j) || decide (j = i)) := a
  rw [← decide_eq_true_iff (p := bt (gor (s.1 : Int) (gshl 1 (i : Int))) j), b, Bool.or_eq_true, decide_eq_true_iff, decide_eq_true_iff]
theorem s_and {S : Int} (h : sR S) {i : Nat} (hi : i < 6) : gand S (gshl 1 (i : Int)) = 0 ↔ ¬ bt S i := by
  obtain ⟨s, hs⟩ : ∃ s : Fin 64, S = (s.1 : Int) := ⟨⟨S.toNat, by have := h.1; have := h.2; omega⟩, by show S = ((S.toNat : Nat) : Int); have := h.1; omega⟩
  subst hs
  have b : decide (gand (s.1 : Int) (gshl 1 (i : Int)) = 0) = !decide (bt (s.1 : Int) i) := zb2 s ⟨i, hi⟩
  rw [← decide_eq_true_iff (p := gand (s.1 : Int) (gshl 1 (i : Int)) = 0), b, Bool.not_eq_true', decide_eq_false_iff_not]
theorem s_or0 {S : Int} (h : sR S) : gor S 0 = S := by
  obtain ⟨s, hs⟩ : ∃ s : Fin 64, S = (s.1 : Int) := ⟨⟨S.toNat, by have := h.1; have := h.2; omega⟩, by show S = ((S.toNat : Nat) : Int); have := h.1; omega⟩
  subst hs
  exact (zb3 s).1
theorem s_eq {S T : Int} (h : sR S) (g : sR T) (e : ∀ j, j < 6 → (bt S j ↔ bt T j)) : S = T := by
  have x : ∀ j, j < 6 → ib S j = ib T j := fun j hj => by
    unfold ib
    by_cases q : bt S j
    · rw [if_pos q, if_pos ((e j hj).mp q)]
    · rw [if_neg q, if_neg (fun z => q ((e j hj).mpr z))]
  obtain ⟨s, hs⟩ : ∃ s : Fin 64, S = (s.1 : Int) := ⟨⟨S.toNat, by have := h.1; have := h.2; omega⟩, by show S = ((S.toNat : Nat) : Int); have := h.1; omega⟩
  obtain ⟨t, ht⟩ : ∃ t : Fin 64, T = (t.1 : Int) := ⟨⟨T.toNat, by have := g.1; have := g.2; omega⟩, by show T = ((T.toNat : Nat) : Int); have := g.1; omega⟩
  have a := (zb3 s).2
  have b := (zb3 t).2
  rw [← hs] at a
  rw [← ht] at b
  have x0 := x 0 (by omega)
  have x1 := x 1 (by omega)
  have x2 := x 2 (by omega)
  have x3 := x 3 (by omega)
  have x4 := x 4 (by omega)
  have x5 := x 5 (by omega)
  omega
def edl (v : LV) (p : Int) (l i j : Nat) : Prop := (0 < flo v p l ∧ v.1 3 l = (i : Int) ∧ v.1 4 l = (j : Int)) ∨ (flo v p l < 0 ∧ v.1 4 l = (i : Int) ∧ v.1 3 l = (j : Int))
def Rz (v : LV) (p : Int) (w : Nat) : Nat → Nat → Prop
  | 0, i => i = w
  | k + 1, i => Rz v p w k i ∨ ∃ j l, l < nn v 1 ∧ edl v p l i j ∧ Rz v p w k j
def Pz (v : LV) (p : Int) (w : Nat) : Nat → Nat → Prop
  | 0, i => i = w
  | k + 1, i => ∃ j l, l < nn v 1 ∧ edl v p l i j ∧ Pz v p w k j
theorem edl_up {v : LV} (hv : wfL v) {p : Int} {l i j : Nat} (hl : l < nn v 1) (h : edl v p l i j) : upv v p j < upv v p i ∧ i < nn v 0 ∧ j < nn v 0 := by
  have a := hv.2.2.2.2.2.2.1 l hl
  have n0 := nn_c hv 0 (by omega)
  rcases h with ⟨f, e1, e2⟩ | ⟨f, e1, e2⟩
  · unfold flo at f
    rw [e1, e2, Int.toNat_natCast, Int.toNat_natCast] at f
    have := pos_of_mul (by omega) f
    rw [e1, e2] at a
    omega
  · unfold flo at f
    rw [e1, e2, Int.toNat_natCast, Int.toNat_natCast] at f
    have f2 : 0 < v.1 5 l * (upv v p i - upv v p j) := by
      have : v.1 5 l * (upv v p i - upv v p j) = -(v.1 5 l * (upv v p j - upv v p i)) := by grind
      omega
    have := pos_of_mul (by omega) f2
    rw [e1, e2] at a
    omega
theorem Pz_rk {v : LV} (hv : wfL v) {p : Int} {w : Nat} (hw : w < nn v 0) : ∀ k i, Pz v p w k i → i < nn v 0 ∧ rk v p w + k ≤ rk v p i
  | 0, i, h => by
    have e : i = w := h
    subst e
    exact ⟨hw, by omega⟩
  | k + 1, i, ⟨j, l, hl, he, hj⟩ => by
    have a := edl_up hv hl he
    have b := Pz_rk hv hw k j hj
    have c := rk_lt (v := v) (p := p) (c := i) (d := j) a.2.2 a.1
    exact ⟨a.2.1, by omega⟩
theorem Rz_Pz {v : LV} {p : Int} {w : Nat} : ∀ k i, Rz v p w k i → ∃ m, Pz v p w m i
  | 0, i, h => ⟨0, h⟩
  | k + 1, i, h => by
    rcases h with h | ⟨j, l, hl, he, hj⟩
    · exact Rz_Pz k i h
    · obtain ⟨m, hm⟩ := Rz_Pz k j hj
      exact ⟨m + 1, j, l, hl, he, hm⟩
theorem Pz_Rz {v : LV} {p : Int} {w : Nat} : ∀ k m i, m ≤ k → Pz v p w m i → Rz v p w k i
  | 0, m, i, h, hp => by
    have e : m = 0 := by omega
    subst e; exact hp
  | k + 1, 0, i, h, hp => Or.inl (Pz_Rz k 0 i (by omega) hp)
  | k + 1, m + 1, i, h, ⟨j, l, hl, he, hj⟩ => Or.inr ⟨j, l, hl, he, Pz_Rz k m j (by omega) hj⟩
theorem Pz_Rz6 {v : LV} (hv : wfL v) {p : Int} {w : Nat} (hw : w < nn v 0) {m i : Nat} (h : Pz v p w m i) : Rz v p w 6 i := by
  have a := Pz_rk hv hw m i h
  have b := rk_le (v := v) (p := p) a.1
  have c := rk_nn v p w
  have n0 := n6 hv
  exact Pz_Rz 6 m i (by omega) h
def sQ (S : Int) (Q : Nat → Prop) : Prop := sR S ∧ ∀ j, j < 6 → (bt S j ↔ Q j)
theorem feed_spec {v : LV} (hv : wfL v) {μ : GM} {p : Int} (hc : cV 22 μ = v) (ra : restAt v 94 μ p) {S : Int} {Q : Nat → Prop} (hS : sQ S Q) : Rt (f_X8_withFeeders S μ) (fun r μ' => μ' = μ ∧ sQ r (fun i => Q i ∨ ∃ j l, l < nn v 1 ∧ edl v p l i j ∧ Q j)) := by
  have n1 := nn_c hv 1 (by omega)
  have n0 := nn_c hv 0 (by omega)
  have l0 := hv.1
  have l1 := hv.2.1
  unfold f_X8_withFeeders
  refine Rt_loop (fun f z (s : Int × GM) => k_X8_withFeeders_4 f S s.1 z s.2) _ (nn v 1) (fun z s => s.2 = μ ∧ sQ s.1 (fun i => Q i ∨ ∃ j l, l < z ∧ edl v p l i j ∧ Q j)) ?_ ?_ FU 0 (S, μ) (by omega) (FU_gt (by omega)) ⟨rfl, hS.1, fun j hj => (hS.2 j hj).trans ⟨Or.inl, fun h => h.elim id (fun ⟨_, _, hl, _⟩ => by omega)⟩⟩
  · intro f z s hz ⟨e1, hs⟩ hnext
    obtain ⟨T, s2⟩ := s
    have e1' : s2 = μ := e1
    subst e1'
    have h := hv.2.2.2.2.2.2.1 z hz
    obtain ⟨x, hx⟩ : ∃ x : Nat, v.1 3 z = x := ⟨(v.1 3 z).toNat, by omega⟩
    obtain ⟨y, hy⟩ : ∃ y : Nat, v.1 4 z = y := ⟨(v.1 4 z).toNat, by omega⟩
    have hx6 : x < 6 := by omega
    have hy6 : y < 6 := by omega
    have hsT : sR T := hs.1
    have hbT : ∀ j, j < 6 → (bt T j ↔ (Q j ∨ ∃ j' l, l < z ∧ edl v p l j j' ∧ Q j')) := hs.2
    have keep : (∀ i j, edl v p z i j → ¬ Q j) → Rt (k_X8_withFeeders_4 f S T (w32 ((z : Int) + 1)) s2) (fun r μ' => μ' = s2 ∧ sQ r (fun i => Q i ∨ ∃ j l, l < nn v 1 ∧ edl v p l i j ∧ Q j)) := fun hno => by
      rw [w32s (by omega)]
      refine hnext (T, s2) ⟨rfl, hsT, fun j hj => (hbT j hj).trans ⟨fun q => q.imp id (fun ⟨j', l, a, b, c⟩ => ⟨j', l, by omega, b, c⟩), fun q => q.imp id (fun ⟨j', l, a, b, c⟩ => ⟨j', l, ?_, b, c⟩)⟩⟩
      by_cases e : l = z
      · subst e; exact absurd c (hno _ _ b)
      · omega
    have add : ∀ i0 j0 : Nat, i0 < 6 → edl v p z i0 j0 → Q j0 → (∀ i j, edl v p z i j → i = i0) → Rt (k_X8_withFeeders_4 f S (gor T (gshl 1 (i0 : Int))) (w32 ((z : Int) + 1)) s2) (fun r μ' => μ' = s2 ∧ sQ r (fun i => Q i ∨ ∃ j l, l < nn v 1 ∧ edl v p l i j ∧ Q j)) := fun i0 j0 hi0 hed hq huq => by
      rw [w32s (by omega)]
      have so := s_or hsT hi0
      refine hnext (gor T (gshl 1 (i0 : Int)), s2) ⟨rfl, so.1, fun j hj => (so.2 j hj).trans ?_⟩
      rw [hbT j hj]
      constructor
      · rintro ((q | ⟨j', l, a, b, c⟩) | q)
        · exact Or.inl q
        · exact Or.inr ⟨j', l, by omega, b, c⟩
        · subst q; exact Or.inr ⟨j0, z, by omega, hed, hq⟩
      · rintro (q | ⟨j', l, a, b, c⟩)
        · exact Or.inl (Or.inl q)
        · by_cases e : l = z
          · subst e; exact Or.inr (huq _ _ b)
          · exact Or.inl (Or.inr ⟨j', l, by omega, b, c⟩)
    show Rt (k_X8_withFeeders_4 (f + 1) S T (z : Int) s2) _
    rw [k_X8_withFeeders_4, lcN1 hc]
    refine Rt_pos (by omega) (Rt_bde (clink_eq hv hc ra hz) (Rt_ck (by omega) (Rt_lt (Rt_ck (by omega) (Rt_lt ?_)))))
    rw [lcA3 hc, lcA4 hc, hx, hy]
    have ax := s_and hS.1 hx6
    have ay := s_and hS.1 hy6
    by_cases q0 : 0 < flo v p z
    · refine Rt_pos q0 ?_
      have uq : ∀ i j, edl v p z i j → i = x ∧ j = y := fun i j he => by
        rcases he with ⟨_, a, b⟩ | ⟨a, _⟩
        · omega
        · omega
      unfold k_X8_withFeeders_79
      by_cases qy : bt S y
      · refine Rt_neg (fun z => ay.mp z qy) (Rt_lt (Rt_neg (by omega) (Rt_lt ?_)))
        exact add x y hx6 (Or.inl ⟨q0, hx, hy⟩) ((hS.2 y hy6).mp qy) (fun i j he => (uq i j he).1)
      · refine Rt_pos (ay.mpr qy) (Rt_neg (by omega) (Rt_lt ?_))
        exact keep (fun i j he hq => qy ((hS.2 y hy6).mpr ((uq i j he).2 ▸ hq)))
    · refine Rt_neg q0 ?_
      unfold k_X8_withFeeders_79
      by_cases q1 : flo v p z < 0
      · have uq : ∀ i j, edl v p z i j → i = y ∧ j = x := fun i j he => by
          rcases he with ⟨a, _⟩ | ⟨_, a, b⟩
          · omega
          · omega
        refine Rt_pos q1 ?_
        by_cases qx : bt S x
        · refine Rt_neg (fun z => ax.mp z qx) (Rt_lt (Rt_lt ?_))
          exact add y x hy6 (Or.inr ⟨q1, hy, hx⟩) ((hS.2 x hx6).mp qx) (fun i j he => (uq i j he).1)
        · refine Rt_pos (ax.mpr qx) (Rt_lt ?_)
          exact keep (fun i j he hq => qx ((hS.2 x hx6).mpr ((uq i j he).2 ▸ hq)))
      · refine Rt_neg q1 (Rt_lt ?_)
        refine keep (fun i j he => ?_)
        rcases he with ⟨a, _⟩ | ⟨a, _⟩ <;> omega
  · intro f s ⟨e1, hs⟩
    obtain ⟨T, s2⟩ := s
    show Rt (k_X8_withFeeders_4 (f + 1) S T (nn v 1 : Int) s2) _
    have e1' : s2 = μ := e1
    subst e1'
    rw [k_X8_withFeeders_4, lcN1 hc]
    exact Rt_neg (by omega) (Rt_some ⟨rfl, hs⟩)
/-- rounds of the other side: between what is reached so far and all that can reach -/
theorem mzone_spec {v : LV} (hv : wfL v) {μ : GM} {p : Int} (hc : veq v (mV 72 73 μ)) (hc2 : mV 59 70 μ = v) (ra : restM v μ p) {Lw : Nat → Nat → Prop} {U : Nat → Prop} (hL : ∀ k i, Lw (k + 1) i → Lw k i ∨ ∃ j l, l < nn v 1 ∧ edl v p l i j ∧ Lw k j) (hU : ∀ i j l, l < nn v 1 → edl v p l i j → U j → U i) {S : Int} (hS : sR S) (h0 : ∀ j, j < 6 → (Lw 0 j → bt S j) ∧ (bt S j → U j)) :
    Rt (k_X12_zone_50 FU S 0 μ) (fun r μ' => μ' = μ ∧ sR r ∧ ∀ j, j < 6 → (Lw 6 j → bt r j) ∧ (bt r j → U j)) := by
  have n1 := nn_c hv 1 (by omega)
  have n0 := nn_c hv 0 (by omega)
  have l0 := hv.1
  have l1 := hv.2.1
  refine Rt_loop (fun f z (s : Int × GM) => k_X12_zone_50 f s.1 z s.2) _ 6 (fun k s => s.2 = μ ∧ sR s.1 ∧ ∀ j, j < 6 → (Lw k j → bt s.1 j) ∧ (bt s.1 j → U j)) ?_ ?_ FU 0 (S, μ) (by omega) (FU_gt (by omega)) ⟨rfl, hS, h0⟩
  · intro f k s hk ⟨e1, hr, hb⟩ hnext
    obtain ⟨T, s2⟩ := s
    have e1' : s2 = μ := e1
    subst e1'
    have hb0 : ∀ j, j < 6 → (Lw k j → bt T j) ∧ (bt T j → U j) := hb
    show Rt (k_X12_zone_50 (f + 1) T (k : Int) s2) _
    rw [k_X12_zone_50]
    refine Rt_pos (by omega) ?_
    refine Rt_loop (fun f' z (s : Int × GM) => k_X12_zone_59 (k_X12_zone_50 f) f' s.1 (k : Int) z s.2) _ (nn v 1) (fun z s => s.2 = s2 ∧ sR s.1 ∧ (∀ j, j < 6 → bt T j → bt s.1 j) ∧ (∀ j, j < 6 → bt s.1 j → U j) ∧ ∀ i j l, l < z → edl v p l i j → bt T j → bt s.1 i) ?_ ?_ FU 0 (T, s2) (by omega) (FU_gt (by omega)) ⟨rfl, hr, fun j hj h => h, fun j hj => (hb j hj).2, fun i j l hl => by omega⟩
    · intro f2 z s hz ⟨e2, gr', g1, g2, g3⟩ hnext2
      obtain ⟨A, s3⟩ := s
      have e2' : s3 = s2 := e2
      subst e2'
      have gA' : sR A := gr'
      have g1' : ∀ j, j < 6 → bt T j → bt A j := g1
      have g2' : ∀ j, j < 6 → bt A j → U j := g2
      have g3' : ∀ i j l, l < z → edl v p l i j → bt T j → bt A i := g3
      have h := hv.2.2.2.2.2.2.1 z hz
      obtain ⟨x, hx⟩ : ∃ x : Nat, v.1 3 z = x := ⟨(v.1 3 z).toNat, by omega⟩
      obtain ⟨y, hy⟩ : ∃ y : Nat, v.1 4 z = y := ⟨(v.1 4 z).toNat, by omega⟩
      have hx6 : x < 6 := by omega
      have hy6 : y < 6 := by omega
      have keep : (∀ i j, edl v p z i j → bt T j → bt A i) → Rt (k_X12_zone_59 (k_X12_zone_50 f) f2 (gor A 0) (k : Int) (w32 ((z : Int) + 1)) s3) (fun r μ' => μ' = s3 ∧ sR r ∧ ∀ j, j < 6 → (Lw 6 j → bt r j) ∧ (bt r j → U j)) := fun hno => by
        rw [w32s (by omega), s_or0 gA']
        refine hnext2 (A, s3) ⟨rfl, gA', g1', g2', fun i j l hl he ht => ?_⟩
        by_cases e : l = z
        · subst e; exact hno i j he ht
        · exact g3' i j l (by omega) he ht
      have add : ∀ i0 j0 : Nat, i0 < 6 → j0 < 6 → edl v p z i0 j0 → bt A j0 → (∀ i j, edl v p z i j → i = i0) → Rt (k_X12_zone_59 (k_X12_zone_50 f) f2 (gor A (gshl 1 (i0 : Int))) (k : Int) (w32 ((z : Int) + 1)) s3) (fun r μ' => μ' = s3 ∧ sR r ∧ ∀ j, j < 6 → (Lw 6 j → bt r j) ∧ (bt r j → U j)) := fun i0 j0 hi0 hj0 hed hq huq => by
        rw [w32s (by omega)]
        have so := s_or gA' hi0
        refine hnext2 (gor A (gshl 1 (i0 : Int)), s3) ⟨rfl, so.1, fun j hj ht => (so.2 j hj).mpr (Or.inl (g1' j hj ht)), fun j hj ht => ?_, fun i j l hl he ht => ?_⟩
        · rcases (so.2 j hj).mp ht with q | q
          · exact g2' j hj q
          · subst q; exact hU _ _ z hz hed (g2' j0 hj0 hq)
        · have iu := edl_up hv (show l < nn v 1 by omega) he
          have i6 : i < 6 := by have := n6 hv; omega
          by_cases e : l = z
          · subst e; exact (so.2 i i6).mpr (Or.inr (huq i j he))
          · exact (so.2 i i6).mpr (Or.inl (g3' i j l (by omega) he ht))
      show Rt (k_X12_zone_59 (k_X12_zone_50 f) (f2 + 1) A (k : Int) (z : Int) s3) _
      rw [k_X12_zone_59, lmN1 hc2]
      refine Rt_pos (by omega) (Rt_bde (mlink_eq hv hc ra hz) ?_)
      unfold k_X12_zone_100 k_X12_zone_126
      rw [lmA3 hc2, lmA4 hc2, hx, hy]
      by_cases q0 : 0 < flo v p z
      · have uq : ∀ i j, edl v p z i j → i = x ∧ j = y := fun i j he => by
          rcases he with ⟨_, a, b⟩ | ⟨a, _⟩ <;> omega
        refine Rt_pos q0 (Rt_ck (by omega) (Rt_pos q0 (Rt_ck (by omega) (Rt_neg (by omega) ?_))))
        refine Rt_if (fun qy => Rt_lt (Rt_lt ?_)) (fun qy => Rt_lt (Rt_lt ?_))
        · exact add x y hx6 hy6 (Or.inl ⟨q0, hx, hy⟩) qy (fun i j he => (uq i j he).1)
        · refine keep (fun i j he ht => absurd (g1' y hy6 ((uq i j he).2 ▸ ht)) qy)
      · refine Rt_neg q0 (Rt_ck (by omega) (Rt_neg q0 (Rt_ck (by omega) ?_)))
        by_cases q1 : flo v p z = 0
        · refine Rt_pos q1 (Rt_lt (Rt_lt ?_))
          refine keep (fun i j he => ?_)
          rcases he with ⟨a, _⟩ | ⟨a, _⟩ <;> omega
        · have q2 : flo v p z < 0 := by omega
          have uq : ∀ i j, edl v p z i j → i = y ∧ j = x := fun i j he => by
            rcases he with ⟨a, _⟩ | ⟨_, a, b⟩ <;> omega
          refine Rt_neg q1 (Rt_if (fun qx => Rt_lt (Rt_lt ?_)) (fun qx => Rt_lt (Rt_lt ?_)))
          · exact add y x hy6 hx6 (Or.inr ⟨q2, hy, hx⟩) qx (fun i j he => (uq i j he).1)
          · refine keep (fun i j he ht => absurd (g1' x hx6 ((uq i j he).2 ▸ ht)) qx)
    · intro f2 s ⟨e2, gr', g1, g2, g3⟩
      obtain ⟨A, s3⟩ := s
      have e2' : s3 = s2 := e2
      subst e2'
      show Rt (k_X12_zone_59 (k_X12_zone_50 f) (f2 + 1) A (k : Int) (nn v 1 : Int) s3) _
      rw [k_X12_zone_59, lmN1 hc2]
      refine Rt_neg (by omega) (Rt_lt ?_)
      rw [w32s (by omega)]
      refine hnext (A, s3) ⟨rfl, gr', fun j hj => ⟨fun hl => ?_, g2 j hj⟩⟩
      rcases hL k j hl with q | ⟨j', l, hl2, he, hq⟩
      · exact g1 j hj ((hb0 j hj).1 q)
      · have iu := edl_up hv hl2 he
        exact g3 j j' l hl2 he ((hb0 j' (by have := n6 hv; omega)).1 hq)
  · intro f s ⟨e1, hr, hb⟩
    obtain ⟨T, s2⟩ := s
    have e1' : s2 = μ := e1
    subst e1'
    show Rt (k_X12_zone_50 (f + 1) T ((6 : Nat) : Int) s2) _
    rw [k_X12_zone_50]
    exact Rt_neg (by omega) (Rt_some ⟨rfl, hr, hb⟩)
noncomputable def zset (v : LV) (p : Int) (w : Nat) : Nat → Prop := fun i => Rz v p w 6 i
theorem czone_spec {v : LV} (hv : wfL v) {μ : GM} {p : Int} (hc : cV 22 μ = v) (ra : restAt v 94 μ p) {w : Nat} (hw : w < nn v 4) : Rt (f_X8_zoneOf (w : Int) μ) (fun r μ' => μ' = μ ∧ sQ r (fun i => v.1 16 w ≠ 0 ∧ Rz v p (v.1 13 w).toNat 6 i)) := by
  have n4 := nn_c hv 4 (by omega)
  have n0 := nn_c hv 0 (by omega)
  have l0 := hv.1
  have l4 := hv.2.2.2.2.1
  have h := hv.2.2.2.2.2.2.2.2.2 w hw
  obtain ⟨x, hx⟩ : ∃ x : Nat, v.1 13 w = x := ⟨(v.1 13 w).toNat, by omega⟩
  have hx6 : x < 6 := by omega
  unfold f_X8_zoneOf
  rw [lcA16 hc, lcA13 hc, hx, Int.toNat_natCast]
  refine Rt_ck (by omega) (Rt_if (fun q => Rt_some ⟨rfl, ⟨by decide, by decide⟩, fun j hj => ⟨fun b => absurd b (zb5 ⟨j, hj⟩), fun b => absurd q b.1⟩⟩) (fun q => Rt_ck (by omega) (Rt_lt ?_)))
  have z4 : ∀ j, j < 6 → (bt (gshl 1 (x : Int)) j ↔ j = x) := fun j hj => by
    have a : decide (bt (gshl 1 (x : Int)) j) = decide (j = x) := (zb4 ⟨x, hx6⟩ ⟨j, hj⟩).2
    rw [← decide_eq_true_iff (p := bt (gshl 1 (x : Int)) j), a, decide_eq_true_iff]
  refine Rt_loop (fun f k (s : Int × GM) => k_X8_zoneOf_34 f s.1 k s.2) _ 6 (fun k s => s.2 = μ ∧ sQ s.1 (fun i => Rz v p x k i)) ?_ ?_ FU 0 (gshl 1 (x : Int), μ) (by omega) (FU_gt (by omega)) ⟨rfl, (zb4 ⟨x, hx6⟩ ⟨0, by omega⟩).1, z4⟩
  · intro f k s hk ⟨e1, hs⟩ hnext
    obtain ⟨T, s2⟩ := s
    have e1' : s2 = μ := e1
    subst e1'
    show Rt (k_X8_zoneOf_34 (f + 1) T (k : Int) s2) _
    rw [k_X8_zoneOf_34]
    refine Rt_pos (by omega) (Rt_bd (feed_spec hv hc ra hs) (fun r μ2 ⟨g1, g2⟩ => Rt_lt ?_))
    subst g1
    rw [w32s (by omega)]
    exact hnext (r, μ2) ⟨rfl, g2⟩
  · intro f s ⟨e1, hs⟩
    obtain ⟨T, s2⟩ := s
    have e1' : s2 = μ := e1
    subst e1'
    show Rt (k_X8_zoneOf_34 (f + 1) T ((6 : Nat) : Int) s2) _
    rw [k_X8_zoneOf_34]
    exact Rt_neg (by omega) (Rt_some ⟨rfl, hs.1, fun j hj => (hs.2 j hj).trans ⟨fun b => ⟨q, b⟩, fun b => b.2⟩⟩)
theorem ok_zone {v : LV} {μ : GM} (h : InvV v μ) (z : Int) : PrOK (f_X11_zone z) (f_X12_zone z) μ := by
  have hv := h.1.2.2.1
  have n4 := nn_c hv 4 (by omega)
  have n0 := nn_c hv 0 (by omega)
  have l4 := hv.2.2.2.2.1
  have l0 := hv.1
  by_cases q : 0 ≤ z ∧ z < v.2 4
  · obtain ⟨w, hw⟩ : ∃ w : Nat, z = w := ⟨z.toNat, by omega⟩
    subst hw
    have hwn : w < nn v 4 := by omega
    have hwf := hv.2.2.2.2.2.2.2.2.2 w hwn
    obtain ⟨x, hx⟩ : ∃ x : Nat, v.1 13 w = x := ⟨(v.1 13 w).toNat, by omega⟩
    have hx6 : x < 6 := by omega
    have hxn : x < nn v 0 := by omega
    -- the one side's answer, and that both answers are one
    unfold PrOK f_X11_zone
    refine Rt_bde (hasWell_y (lcN4 h.1.1) q) (Rt_neg (by decide) (Rt_bd (atRest_spec h) (fun r1 μ1 ⟨s1, ho⟩ => ?_)))
    have i1 := h.sc s1
    rcases ho with ⟨r1, p, hp⟩ | ⟨r0, hn⟩
    · refine Rt_neg (by omega) (Rt_bd (czone_spec hv i1.1.1 hp hwn) (fun rc μ2 ⟨e2, hq⟩ => Rt_some ?_))
      subst e2
      unfold f_X12_zone
      obtain ⟨j1, t1⟩ := inv_thr i1
      refine Rt_lm (Rt_bde (noWell_y (lmN4 j1.1.2.1) (by omega) q) (Rt_pos rfl (Rt_bd (rests_spec j1) (fun r3 μ3 ⟨s0, e72, e73, ho3⟩ => ?_))))
      have s3 : ScOK v (gF μ2 53 0 0) μ3 := (ScOK.refl j1).m s0
      have i3 := j1.sc s3
      have hve : veq v (mV 72 73 μ3) := mV_now i3.1.2.1 hv ofr.rfl (fun l hl => by rw [e72 l hl, s0.1 59 (by unfold PM; omega)]) (fun l hl => by rw [e73 l hl, s0.1 70 (by unfold PM; omega)])
      rcases ho3 with ⟨r31, p3, hp3⟩ | ⟨r30, hn3⟩
      · have ep : p3 = p := isR_uniq hv hp3.2.1 hp.2.1 hp3.2.2.1 hp.2.2.1
        subst ep
        refine Rt_neg (by omega) (Rt_ck (by omega) ?_)
        rw [lmA16 i3.1.2.1, lmA13 i3.1.2.1, hx]
        rw [hx, Int.toNat_natCast] at hq
        by_cases qr : 0 < v.1 16 w
        · refine Rt_pos qr (Rt_ck (by omega) (Rt_lt ?_))
          have z4 : ∀ j, j < 6 → (bt (gshl 1 (x : Int)) j ↔ j = x) := fun j hj => by
            have a : decide (bt (gshl 1 (x : Int)) j) = decide (j = x) := (zb4 ⟨x, hx6⟩ ⟨j, hj⟩).2
            rw [← decide_eq_true_iff (p := bt (gshl 1 (x : Int)) j), a, decide_eq_true_iff]
          refine (mzone_spec hv hve i3.1.2.1 hp3 (Lw := Rz v p3 x) (U := fun i => ∃ m, Pz v p3 x m i) (fun k i hh => hh) (fun i j l hl he ⟨m, hm⟩ => ⟨m + 1, j, l, hl, he, hm⟩) (zb4 ⟨x, hx6⟩ ⟨0, by omega⟩).1 (fun j hj => ⟨fun hh => (z4 j hj).mpr hh, fun hh => ⟨0, (z4 j hj).mp hh⟩⟩)).mono (fun r μ4 ⟨f1, f2, f3⟩ => ⟨?_, v, by rw [f1]; exact i3⟩)
          refine s_eq f2 hq.1 (fun j hj => ⟨fun b => (hq.2 j hj).mpr ⟨by omega, ?_⟩, fun b => (f3 j hj).1 ((hq.2 j hj).mp b).2⟩)
          obtain ⟨m, hm⟩ := (f3 j hj).2 b
          exact Pz_Rz6 hv hxn hm
        · refine Rt_neg qr ?_
          refine (mzone_spec hv hve i3.1.2.1 hp3 (Lw := fun _ _ => False) (U := fun _ => False) (fun k i hh => hh.elim) (fun i j l hl he hh => hh) (S := 0) ⟨by decide, by decide⟩ (fun j hj => ⟨fun hh => hh.elim, fun hh => zb5 ⟨j, hj⟩ hh⟩)).mono (fun r μ4 ⟨f1, f2, f3⟩ => ⟨?_, v, by rw [f1]; exact i3⟩)
          refine s_eq f2 hq.1 (fun j hj => ⟨fun b => ((f3 j hj).2 b).elim, fun b => absurd ((hq.2 j hj).mp b).1 (by omega)⟩)
      · exact absurd ⟨hp.1, p, hp.2.1, hp.2.2.1⟩ hn3
    · refine Rt_pos r0 (Rt_some ?_)
      unfold f_X12_zone
      obtain ⟨j1, t1⟩ := inv_thr i1
      refine Rt_lm (Rt_bde (noWell_y (lmN4 j1.1.2.1) (by omega) q) (Rt_pos rfl (Rt_bd (rests_spec j1) (fun r3 μ3 ⟨s0, e72, e73, ho3⟩ => ?_))))
      have s3 : ScOK v (gF μ1 53 0 0) μ3 := (ScOK.refl j1).m s0
      have i3 := j1.sc s3
      rcases ho3 with ⟨r31, p3, hp3⟩ | ⟨r30, hn3⟩
      · exact absurd ⟨hp3.1, p3, hp3.2.1, hp3.2.2.1⟩ hn
      · exact Rt_pos r30 (Rt_some ⟨rfl, v, i3⟩)
  · refine q_ok h (-10000001) (fun μ h => ?_) (fun μ h => ?_)
    · unfold f_X11_zone
      exact Rt_bde (hasWell_n (lcN4 h.1.1) q) (Rt_pos rfl (Rt_some ⟨rfl, ScOK.refl h⟩))
    · obtain ⟨h1, s1⟩ := inv_thr h
      unfold f_X12_zone
      exact Rt_lm (Rt_bde (noWell_n (lmN4 h1.1.2.1) (by omega) q) (Rt_neg (by decide) (Rt_some ⟨rfl, s1⟩)))
