/-! ways: heads fall along them -/
abbrev isC (v : LV) (x : Int) : Prop := 0 ≤ x ∧ x < v.2 0
def okC (v : LV) (x : Int) : Prop := isC v x ∨ x = -10000009 ∨ 100 ≤ x
theorem nx_ok {v : LV} (hv : wfL v) (p c : Int) : okC v (nx v p c) ∧ (isC v (nx v p c) → upv v p (nx v p c).toNat < upv v p c.toNat) := by
  have g := outs_good hv p c
  have l0 := hv.1
  unfold nx
  cases e : gr (outs v p c).2.2 (outs v p c).1 with
  | none => exact ⟨Or.inr (Or.inl rfl), fun h => absurd h.1 (show ¬ (0 : Int) ≤ -10000009 by decide)⟩
  | some k =>
    have gk := (g k (gr_lt _ _ _ e)).2
    dsimp only
    rcases gk with ⟨a, b, d⟩ | a
    · exact ⟨Or.inl ⟨a, b⟩, fun _ => d⟩
    · refine ⟨Or.inr (Or.inr a), fun h => ?_⟩
      have := h.2
      omega
theorem okC_in {v : LV} (hv : wfL v) {x : Int} (h : okC v x) : (0 ≤ x ∧ x ≤ 5) ↔ isC v x := by
  have l0 := hv.1
  unfold okC isC at *
  omega
def rk (v : LV) (p : Int) (c : Nat) : Int := sumn (nn v 0) (fun j => if upv v p j < upv v p c then 1 else 0)
theorem rk_nn (v : LV) (p : Int) (c : Nat) : 0 ≤ rk v p c := sumn_nn (fun j _ => by split <;> omega)
theorem rk_lt {v : LV} {p : Int} {c d : Nat} (hd : d < nn v 0) (h : upv v p d < upv v p c) : rk v p d + 1 ≤ rk v p c := by
  unfold rk
  have e : sumn (nn v 0) (fun j => (if upv v p j < upv v p d then 1 else 0) + (if j = d then 1 else 0)) ≤ sumn (nn v 0) (fun j => if upv v p j < upv v p c then 1 else 0) := sumn_le (fun j _ => by
    by_cases q : j = d
    · subst q
      rw [if_neg (by omega), if_pos rfl, if_pos h]; omega
    · rw [if_neg q]
      by_cases q2 : upv v p j < upv v p d
      · rw [if_pos q2, if_pos (by omega)]; omega
      · rw [if_neg q2]; split <;> omega)
  rw [sumn_add, sumn_single (nn v 0) d (fun j => if j = d then 1 else 0) hd (fun i _ hne => if_neg hne), if_pos rfl] at e
  exact e
theorem rk_le {v : LV} {p : Int} {c : Nat} (hc : c < nn v 0) : rk v p c + 1 ≤ nn v 0 := by
  unfold rk
  have e : sumn (nn v 0) (fun j => (if upv v p j < upv v p c then 1 else 0) + (if j = c then 1 else 0)) ≤ sumn (nn v 0) (fun _ => 1) := sumn_le (fun j _ => by
    by_cases q : j = c
    · subst q
      rw [if_neg (by omega), if_pos rfl]; omega
    · rw [if_neg q]; split <;> omega)
  rw [sumn_add, sumn_single (nn v 0) c (fun j => if j = c then 1 else 0) hc (fun i _ hne => if_neg hne), if_pos rfl, sumn_const] at e
  omega
noncomputable def itw (v : LV) (p c : Int) : Nat → Int
  | 0 => c
  | z + 1 => if 0 ≤ itw v p c z ∧ itw v p c z < v.2 0 then nx v p (itw v p c z) else itw v p c z
theorem itw_cell {v : LV} {p c : Int} {z : Nat} (h : isC v (itw v p c z)) : itw v p c (z + 1) = nx v p (itw v p c z) := by
  show (if _ then _ else _) = _
  rw [if_pos h]
theorem itw_stay {v : LV} {p c : Int} {z : Nat} (h : ¬ isC v (itw v p c z)) : ∀ m, itw v p c (z + m) = itw v p c z
  | 0 => rfl
  | m + 1 => by
    have ih := itw_stay h m
    show (if 0 ≤ itw v p c (z + m) ∧ itw v p c (z + m) < v.2 0 then _ else itw v p c (z + m)) = _
    rw [ih, if_neg h]
theorem itw_ok {v : LV} (hv : wfL v) {p c : Int} (hc : isC v c) : ∀ z, okC v (itw v p c z)
  | 0 => Or.inl hc
  | z + 1 => by
    have ih := itw_ok hv hc (p := p) z
    by_cases q : isC v (itw v p c z)
    · rw [itw_cell q]; exact (nx_ok hv p _).1
    · have := itw_stay q 1
      rw [this]; exact ih
theorem itw_rk {v : LV} (hv : wfL v) {p c : Int} (hc : isC v c) : ∀ z, isC v (itw v p c z) → rk v p (itw v p c z).toNat + z ≤ rk v p c.toNat
  | 0, _ => by show rk v p c.toNat + 0 ≤ _; omega
  | z + 1, h => by
    have n0 := nn_c hv 0 (by omega)
    have q : isC v (itw v p c z) := by
      by_cases q : isC v (itw v p c z)
      · exact q
      · have := itw_stay q 1
        rw [this] at h
        exact absurd h q
    have ih := itw_rk hv hc z q
    rw [itw_cell q] at h ⊢
    have a := (nx_ok hv p (itw v p c z)).2 h
    have b := rk_lt (v := v) (p := p) (c := (itw v p c z).toNat) (d := (nx v p (itw v p c z)).toNat) (by have := h.1; have := h.2; omega) a
    omega
theorem itw_6 {v : LV} (hv : wfL v) {p c : Int} (hc : isC v c) : ¬ isC v (itw v p c 6) := by
  intro h
  have n0 := nn_c hv 0 (by omega)
  have l0 := hv.1
  have a := itw_rk hv hc 6 h
  have b := rk_nn v p (itw v p c 6).toNat
  have d := rk_le (v := v) (p := p) (c := c.toNat) (by have := hc.1; have := hc.2; omega)
  omega
/-- frames along a way -/
theorem stepC {v : LV} (hv : wfL v) {μ s : GM} {p : Int} (hc : cV 22 μ = v) (ra : restAt v 94 μ p) (o : ofr PGc FGc μ s) : cV 22 s = v ∧ restAt v 94 s p :=
  ⟨(cV_keep o (fun k hk => by unfold PGc; omega) (fun k j hk => by unfold FGc; omega) (by unfold PGc; omega)).trans hc, rest_keepC ra o (by unfold PGc; omega) (by unfold FGc; omega) (by unfold FGc; omega)⟩
theorem stepM {v : LV} (hv : wfL v) {μ s : GM} {p : Int} (hc : veq v (mV 72 73 μ)) (hc2 : mV 59 70 μ = v) (ra : restM v μ p) (o : ofr PGm FGm μ s) : veq v (mV 72 73 s) ∧ mV 59 70 s = v ∧ restM v s p := by
  refine ⟨?_, ?_, rest_keepM ra o (by unfold PGm; omega) (by unfold FGm; omega) (by unfold FGm; omega)⟩
  · rw [mV_keepv o (fun k h1 h2 => by unfold PGm; omega) (fun j h1 h2 => by unfold FGm; omega) (by omega) (by omega)]; exact hc
  · rw [mV_keepv o (fun k h1 h2 => by unfold PGm; omega) (fun j h1 h2 => by unfold FGm; omega) (by omega) (by omega)]; exact hc2
theorem scC {v : LV} {μ s : GM} (h : InvV v μ) (o : ofr PGc FGc μ s) : ScOK v μ s := by
  refine ⟨o.mono (fun k hk => by unfold PGc at hk; unfold PSc; omega) (fun k j hk => by unfold FGc at hk; unfold FSc; omega), ?_, ?_, ?_⟩
  · exact cache_keep h.2.1.2.1 (o.1 _ (by unfold PGc; omega)) (o.1 _ (by unfold PGc; omega)) (fun z _ => o.1 _ (by unfold PGc; omega))
  · rw [o.2 94 8 (by unfold FGc; omega)]; exact h.2.1.2.2
  · rw [o.2 132 8 (by unfold FGc; omega)]; exact h.2.2.1.2
theorem scM {v : LV} {μ s : GM} (h : InvV v μ) (o : ofr PGm FGm μ s) : ScOK v μ s := (ScOK.refl h).m (o.mono (fun k hk => by unfold PGm at hk; unfold PM; omega) (fun k j hk => by unfold FGm at hk; unfold FM; omega))
noncomputable def wayv (v : LV) (p c i : Int) : Int := if 0 ≤ i ∧ i < 6 ∧ 0 ≤ itw v p c i.toNat ∧ itw v p c i.toNat < v.2 0 then itw v p c i.toNat else -10000009
theorem cway_spec {v : LV} (hv : wfL v) {μ : GM} {p : Int} (hc : cV 22 μ = v) (ra : restAt v 94 μ p) {c : Int} (hcc : isC v c) (i : Int) : Rt (f_X8_cellOfWay c i μ) (fun r μ' => r = wayv v p c i ∧ ofr PGc FGc μ μ') := by
  unfold f_X8_cellOfWay
  by_cases q : i < 0
  · rw [show wayv v p c i = -10000009 by unfold wayv; exact if_neg (by omega)]
    exact Rt_pos q (Rt_some ⟨rfl, ofr.rfl⟩)
  refine Rt_neg q ?_
  by_cases q6 : i < 6
  · refine Rt_pos q6 ?_
    obtain ⟨N, hN⟩ : ∃ N : Nat, i = N := ⟨i.toNat, by omega⟩
    subst hN
    unfold wayv
    rw [Int.toNat_natCast]
    have fin : ∀ (x : Int) (s : GM), ofr PGc FGc μ s → Rt (k_X8_cellOfWay_47 x s) (fun r μ' => r = (if 0 ≤ x ∧ x < v.2 0 then x else -10000009) ∧ ofr PGc FGc μ μ') := fun x s o => by
      unfold k_X8_cellOfWay_47
      have c1 := (stepC hv hc ra o).1
      by_cases qx : 0 ≤ x ∧ x < v.2 0
      · rw [if_pos qx]; exact Rt_bde (hasCell_y (lcN0 c1) qx) (Rt_neg (by decide) (Rt_some ⟨rfl, o⟩))
      · rw [if_neg qx]; exact Rt_bde (hasCell_n (lcN0 c1) qx) (Rt_pos rfl (Rt_some ⟨rfl, o⟩))
    have fin2 : ∀ (x : Int) (s : GM), x = itw v p c N → ofr PGc FGc μ s → Rt (k_X8_cellOfWay_47 x s) (fun r μ' => r = (if 0 ≤ (N : Int) ∧ (N : Int) < 6 ∧ 0 ≤ itw v p c N ∧ itw v p c N < v.2 0 then itw v p c N else -10000009) ∧ ofr PGc FGc μ μ') := fun x s e o => by
      refine (fin x s o).mono (fun r μ' k => ⟨?_, k.2⟩)
      rw [k.1, e]
      by_cases qx : 0 ≤ itw v p c N ∧ itw v p c N < v.2 0
      · rw [if_pos qx, if_pos ⟨by omega, by omega, qx.1, qx.2⟩]
      · rw [if_neg qx, if_neg (fun z => qx z.2.2)]
    refine Rt_loop (fun f z (s : Int × GM) => k_X8_cellOfWay_18 f (N : Int) s.1 z s.2) _ N (fun z s => s.1 = itw v p c z ∧ ofr PGc FGc μ s.2) ?_ ?_ FU 0 (c, μ) (by omega) (FU_gt (by omega)) ⟨rfl, ofr.rfl⟩
    · intro f z s hz ⟨e, o⟩ hnext
      obtain ⟨x, s⟩ := s
      have e' : x = itw v p c z := e
      have c1 := stepC hv hc ra o
      show Rt (k_X8_cellOfWay_18 (f + 1) (N : Int) x (z : Int) s) _
      rw [k_X8_cellOfWay_18]
      refine Rt_pos (by omega) ?_
      by_cases qx : isC v (itw v p c z)
      · rw [e']
        refine Rt_bde (hasCell_y (lcN0 c1.1) qx) (Rt_neg (by decide) (Rt_bd (onward_spec hv c1.1 c1.2 _) (fun r μ2 ⟨e1, e2, _⟩ => Rt_lt ?_)))
        rw [w32s (by omega)]
        exact hnext (r, μ2) ⟨by rw [e1]; exact (itw_cell qx).symm, o.trans e2⟩
      · rw [e']
        refine Rt_bde (hasCell_n (lcN0 c1.1) qx) (Rt_pos rfl (fin2 _ s ?_ o))
        have := itw_stay qx (N - z)
        rw [show z + (N - z) = N by omega] at this
        exact this.symm
    · intro f s ⟨e, o⟩
      obtain ⟨x, s⟩ := s
      show Rt (k_X8_cellOfWay_18 (f + 1) (N : Int) x (N : Int) s) _
      rw [k_X8_cellOfWay_18]
      exact Rt_neg (by omega) (fin2 x s e o)
  · rw [show wayv v p c i = -10000009 by unfold wayv; exact if_neg (by omega)]
    exact Rt_neg q6 (Rt_some ⟨rfl, ofr.rfl⟩)
theorem mway_spec {v : LV} (hv : wfL v) {μ : GM} {p : Int} (hc : veq v (mV 72 73 μ)) (hc2 : mV 59 70 μ = v) (ra : restM v μ p) {c : Int} (hcc : isC v c) {i : Int} (hi : 0 ≤ i) : Rt (k_X12_way_38 FU i c 0 μ) (fun r μ' => r = wayv v p c i ∧ ofr PGm FGm μ μ') := by
  have fin : ∀ (x : Int) (s : GM), okC v x → ofr PGm FGm μ s → Rt (k_X12_way_68 x s) (fun r μ' => r = (if 0 ≤ x ∧ x < v.2 0 then x else -10000009) ∧ ofr PGm FGm μ μ') := fun x s ho o => by
    unfold k_X12_way_68
    have oi := okC_in hv ho
    by_cases qx : 0 ≤ x ∧ x < v.2 0
    · rw [if_pos qx]; exact Rt_bde (in_y (oi.mpr qx)) (Rt_neg (by decide) (Rt_some ⟨rfl, o⟩))
    · rw [if_neg qx]; exact Rt_bde (in_n (fun z => qx (oi.mp z))) (Rt_pos rfl (Rt_some ⟨rfl, o⟩))
  have hN : ∃ N : Nat, N ≤ 6 ∧ ((N : Int) = i ∨ (N = 6 ∧ 6 < i)) := by
    by_cases q : i ≤ 6
    · exact ⟨i.toNat, by omega, Or.inl (by omega)⟩
    · exact ⟨6, by omega, Or.inr ⟨rfl, by omega⟩⟩
  obtain ⟨N, hN6, hNi⟩ := hN
  have val : (if 0 ≤ itw v p c N ∧ itw v p c N < v.2 0 then itw v p c N else -10000009) = wayv v p c i := by
    unfold wayv
    by_cases q : N < 6
    · have e : (N : Int) = i := by omega
      rw [← e, Int.toNat_natCast]
      by_cases qx : 0 ≤ itw v p c N ∧ itw v p c N < v.2 0
      · rw [if_pos qx, if_pos ⟨by omega, by omega, qx.1, qx.2⟩]
      · rw [if_neg qx, if_neg (fun z => qx z.2.2)]
    · have e : N = 6 := by omega
      subst e
      have n6 := itw_6 hv (p := p) hcc
      rw [if_neg n6, if_neg (by omega)]
  rw [← val]
  refine Rt_loop (fun f z (s : Int × GM) => k_X12_way_38 f i s.1 z s.2) _ N (fun z s => s.1 = itw v p c z ∧ ofr PGm FGm μ s.2) ?_ ?_ FU 0 (c, μ) (by omega) (FU_gt (by omega)) ⟨rfl, ofr.rfl⟩
  · intro f z s hz ⟨e, o⟩ hnext
    obtain ⟨x, s⟩ := s
    have e' : x = itw v p c z := e
    obtain ⟨c1, c2, c3⟩ := stepM hv hc hc2 ra o
    have oi := okC_in hv (itw_ok hv hcc (p := p) z)
    show Rt (k_X12_way_38 (f + 1) i x (z : Int) s) _
    rw [k_X12_way_38, e']
    refine Rt_pos (by omega) ?_
    by_cases qx : isC v (itw v p c z)
    · refine Rt_bde (in_y (oi.mpr qx)) (Rt_neg (by decide) (Rt_bd (nextOf_spec hv c1 c2 c3 _) (fun r μ2 ⟨e1, e2, _⟩ => Rt_lt ?_)))
      rw [w32s (by omega)]
      exact hnext (r, μ2) ⟨by rw [e1]; exact (itw_cell qx).symm, o.trans e2⟩
    · refine Rt_bde (in_n (fun z => qx (oi.mp z))) (Rt_pos rfl ?_)
      have st := itw_stay qx (N - z)
      rw [show z + (N - z) = N by omega] at st
      rw [st]
      exact fin _ s (itw_ok hv hcc z) o
  · intro f s ⟨e, o⟩
    obtain ⟨x, s⟩ := s
    have e' : x = itw v p c N := e
    have oi := okC_in hv (itw_ok hv hcc (p := p) N)
    show Rt (k_X12_way_38 (f + 1) i x (N : Int) s) _
    rw [k_X12_way_38, e']
    rcases hNi with h | ⟨h, h2⟩
    · exact Rt_neg (by omega) (fin _ s (itw_ok hv hcc N) o)
    · refine Rt_pos (by omega) (Rt_bde (in_n (fun z => ?_)) (Rt_pos rfl (fin _ s (itw_ok hv hcc N) o)))
      have := oi.mp z
      rw [h] at this
      exact itw_6 hv hcc this
theorem ok_way {v : LV} {μ : GM} (h : InvV v μ) (z i : Int) : PrOK (f_X11_way z i) (f_X12_way z i) μ := by
  by_cases q : 0 ≤ z ∧ z < v.2 0
  · obtain ⟨tot, tn, ty⟩ := rest_val h.1.2.2.1 (-10000003) (fun p => wayv v p z i)
    have hv := h.1.2.2.1
    refine q_ok h tot (fun μ h => ?_) (fun μ h => ?_)
    · unfold f_X11_way
      refine Rt_bde (hasCell_y (lcN0 h.1.1) q) (Rt_neg (by decide) (cRest h _ tn ty (fun p h0 hp hr μ4 h4 ra => Rt_bd (cway_spec hv h4.1.1 ra q i) (fun r μ5 ⟨e1, e2⟩ => Rt_some ⟨e1, scC h4 e2⟩))))
    · obtain ⟨h1, s1⟩ := inv_thr h
      unfold f_X12_way
      refine Rt_lm (Rt.mono (P := VQ v (gF μ 53 0 0) tot) ?_ (fun r μ2 k => ⟨k.1, s1.trans k.2⟩))
      refine Rt_bde (noCell_y (lmN0 h1.1.2.1) (lim0 hv) q) (Rt_pos rfl (mRest h1 _ tn ty (fun p h0 hp hr μ4 h4 ra hm => Rt_if (fun qi => Rt_some ⟨?_, ScOK.refl h4⟩) (fun qi => (mway_spec hv hm h4.1.2.1 ra q (by omega)).mono (fun r μ5 k => ⟨k.1, scM h4 k.2⟩)))))
      unfold wayv
      rw [if_neg (by omega)]
  · refine q_ok h (-10000001) (fun μ h => ?_) (fun μ h => ?_)
    · unfold f_X11_way
      exact Rt_bde (hasCell_n (lcN0 h.1.1) q) (Rt_pos rfl (Rt_some ⟨rfl, ScOK.refl h⟩))
    · obtain ⟨h1, s1⟩ := inv_thr h
      unfold f_X12_way
      exact Rt_lm (Rt_bde (noCell_n (lmN0 h1.1.2.1) (lim0 h.1.2.2.1) q) (Rt_neg (by decide) (Rt_some ⟨rfl, s1⟩)))
theorem ok_end {v : LV} {μ : GM} (h : InvV v μ) (z : Int) : PrOK (f_X11_end z) (f_X12_end z) μ := by
  by_cases q : 0 ≤ z ∧ z < v.2 0
  · obtain ⟨tot, tn, ty⟩ := rest_val h.1.2.2.1 (-10000003) (fun p => itw v p z 6)
    have hv := h.1.2.2.1
    refine q_ok h tot (fun μ h => ?_) (fun μ h => ?_)
    · unfold f_X11_end
      refine Rt_bde (hasCell_y (lcN0 h.1.1) q) (Rt_neg (by decide) (cRest h _ tn ty (fun p h0 hp hr μ4 h4 ra => ?_)))
      have main : Rt (f_X8_endOfWay z μ4) (fun r μ' => r = itw v p z 6 ∧ ofr PGc FGc μ4 μ') := by
        unfold f_X8_endOfWay
        refine Rt_loop (fun f k (s : Int × GM) => k_X8_endOfWay_4 f s.1 k s.2) _ 6 (fun k s => s.1 = itw v p z k ∧ ofr PGc FGc μ4 s.2) ?_ ?_ FU 0 (z, μ4) (by omega) (FU_gt (by omega)) ⟨rfl, ofr.rfl⟩
        · intro f k s hk ⟨e, o⟩ hnext
          obtain ⟨x, s⟩ := s
          have e' : x = itw v p z k := e
          have c1 := stepC hv h4.1.1 ra o
          show Rt (k_X8_endOfWay_4 (f + 1) x (k : Int) s) _
          rw [k_X8_endOfWay_4, e']
          refine Rt_pos (by omega) ?_
          by_cases qx : isC v (itw v p z k)
          · refine Rt_bde (hasCell_y (lcN0 c1.1) qx) (Rt_neg (by decide) (Rt_bd (onward_spec hv c1.1 c1.2 _) (fun r μ2 ⟨e1, e2, _⟩ => Rt_lt ?_)))
            rw [w32s (by omega)]
            exact hnext (r, μ2) ⟨by rw [e1]; exact (itw_cell qx).symm, o.trans e2⟩
          · refine Rt_bde (hasCell_n (lcN0 c1.1) qx) (Rt_pos rfl (Rt_some ⟨?_, o⟩))
            have := itw_stay qx (6 - k)
            rw [show k + (6 - k) = 6 by omega] at this
            exact this.symm
        · intro f s ⟨e, o⟩
          obtain ⟨x, s⟩ := s
          show Rt (k_X8_endOfWay_4 (f + 1) x ((6 : Nat) : Int) s) _
          rw [k_X8_endOfWay_4]
          exact Rt_neg (by omega) (Rt_some ⟨e, o⟩)
      exact Rt_bd main (fun r μ5 ⟨e1, e2⟩ => Rt_some ⟨e1, scC h4 e2⟩)
    · obtain ⟨h1, s1⟩ := inv_thr h
      unfold f_X12_end
      refine Rt_lm (Rt.mono (P := VQ v (gF μ 53 0 0) tot) ?_ (fun r μ2 k => ⟨k.1, s1.trans k.2⟩))
      refine Rt_bde (noCell_y (lmN0 h1.1.2.1) (lim0 hv) q) (Rt_pos rfl (mRest h1 _ tn ty (fun p h0 hp hr μ4 h4 ra hm => ?_)))
      refine Rt.mono (P := fun r μ' => r = itw v p z 6 ∧ ofr PGm FGm μ4 μ') ?_ (fun r μ5 k => ⟨k.1, scM h4 k.2⟩)
      refine Rt_loop (fun f (_ : Int) (s : Int × GM) => k_X12_end_28 f s.1 s.2) _ 6 (fun k s => s.1 = itw v p z k ∧ ofr PGm FGm μ4 s.2) ?_ ?_ FU 0 (z, μ4) (by omega) (FU_gt (by omega)) ⟨rfl, ofr.rfl⟩
      · intro f k s hk ⟨e, o⟩ hnext
        obtain ⟨x, s⟩ := s
        have e' : x = itw v p z k := e
        obtain ⟨c1, c2, c3⟩ := stepM hv hm h4.1.2.1 ra o
        have oi := okC_in hv (itw_ok hv q (p := p) k)
        show Rt (k_X12_end_28 (f + 1) x s) _
        rw [k_X12_end_28, e']
        by_cases qx : isC v (itw v p z k)
        · refine Rt_bde (in_y (oi.mpr qx)) (Rt_neg (by decide) (Rt_bd (nextOf_spec hv c1 c2 c3 _) (fun r μ2 ⟨e1, e2, _⟩ => ?_)))
          exact hnext (r, μ2) ⟨by rw [e1]; exact (itw_cell qx).symm, o.trans e2⟩
        · refine Rt_bde (in_n (fun z => qx (oi.mp z))) (Rt_pos rfl (Rt_some ⟨?_, o⟩))
          have := itw_stay qx (6 - k)
          rw [show k + (6 - k) = 6 by omega] at this
          exact this.symm
      · intro f s ⟨e, o⟩
        obtain ⟨x, s⟩ := s
        have e' : x = itw v p z 6 := e
        have oi := okC_in hv (itw_ok hv q (p := p) 6)
        show Rt (k_X12_end_28 (f + 1) x s) _
        rw [k_X12_end_28, e']
        exact Rt_bde (in_n (fun w => itw_6 hv q (oi.mp w))) (Rt_pos rfl (Rt_some ⟨rfl, o⟩))
  · refine q_ok h (-10000001) (fun μ h => ?_) (fun μ h => ?_)
    · unfold f_X11_end
      exact Rt_bde (hasCell_n (lcN0 h.1.1) q) (Rt_pos rfl (Rt_some ⟨rfl, ScOK.refl h⟩))
    · obtain ⟨h1, s1⟩ := inv_thr h
      unfold f_X12_end
      exact Rt_lm (Rt_bde (noCell_n (lmN0 h1.1.2.1) (lim0 h.1.2.2.1) q) (Rt_neg (by decide) (Rt_some ⟨rfl, s1⟩)))
