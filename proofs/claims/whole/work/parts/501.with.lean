/-! the heads with some wells drawing: the one side -/
theorem veq_wrt {v : LV} {f g : Int → Int} (h : ∀ k : Nat, k < nn v 4 → f k = g k) : veq (wrt v f) (wrt v g) := by
  refine ⟨fun j h1 h2 => ?_, rfl, fun k hk => rfl, fun k hk => h k hk⟩
  match j, h1 with
  | 0, _ => rfl
  | 1, _ => rfl
  | 2, _ => rfl
  | 3, _ => rfl
  | 4, _ => rfl
  | 5, _ => rfl
  | 6, _ => rfl
  | 7, _ => rfl
  | 8, _ => rfl
  | 9, _ => rfl
  | 10, _ => rfl
  | 11, _ => rfl
  | 12, _ => rfl
  | 13, _ => rfl
  | 14, _ => rfl
  | 15, _ => rfl
  | j + 16, h => omega
def fm (v : LV) (m : Int) : Int → Int := fun w => if gand (gshr m w) 1 = 1 then v.1 16 w else 0
theorem fm_wf {v : LV} (hv : wfL v) (m : Int) : wfL (wrt v (fm v m)) := by
  refine wf_wrt hv (fun w hw => ?_)
  have := (hv.2.2.2.2.2.2.2.2.2 w hw).2
  unfold fm
  split
  · exact this
  · omega
def MWp (v : LV) (m : Int) (c : Nat) (r : Int) : Prop := (hasR (wrt v (fm v m)) → r = wM (wrt v (fm v m)) c) ∧ (¬ hasR (wrt v (fm v m)) → r = -10000003)
theorem MWp_eq {v : LV} {m : Int} {c : Nat} {r r2 : Int} (h : MWp v m c r) (g : MWp v m c r2) : r2 = r := by
  by_cases q : hasR (wrt v (fm v m))
  · rw [h.1 q, g.1 q]
  · rw [h.2 q, g.2 q]
def P51 : Nat → Prop := fun k => k = 51
theorem settle51 {v : LV} {μ s : GM} {f : Int → Int} (h : InvV v μ) (o : ofr P51 nF μ s) (hf : wfL (wrt v f)) (e : ∀ w : Nat, w < nn v 4 → s.1 51 w = f w) : Rt (f_X6_settle 94 51 s) (fun r s2 => ScOK v μ s2 ∧ ofr (PR 94) (FR 94) s s2 ∧ ((r = 1 ∧ ∃ p, restAt (wrt v f) 94 s2 p) ∨ (r = 0 ∧ ¬ hasR (wrt v f)))) := by
  have hc : cV 22 s = v := (cV_keep o (fun k hk => by unfold P51; omega) (fun _ _ _ z => z) (by unfold P51; omega)).trans h.1.1
  have ca : cacheOK v 94 s := cache_keep h.2.1.2.1 (o.1 _ (by unfold P51; omega)) (o.1 _ (by unfold P51; omega)) (fun z _ => o.1 _ (by unfold P51; omega))
  refine (settle_v (t := 94) (b := 51) gRt_A hf (by omega) (by rw [cV_wrt hc 51]; exact veq_wrt (fun k hk => (e k hk).symm)) ?_ ca ?_).mono (fun r s2 ⟨k1, k2, k3, k4⟩ => ⟨⟨?_, k2, k3, ?_⟩, k1, k4⟩)
  · rw [o.2 94 1 (fun z => z)]; exact h.2.1.1
  · rw [okp_wrt, o.2 94 8 (fun z => z)]; exact h.2.1.2.2
  · exact (o.mono (fun k hk => by unfold P51 at hk; unfold PSc; omega) (fun _ _ z => z.elim)).trans (k1.mono (fun k hk => by unfold PR at hk; unfold PSc; omega) (fun k j hk => by unfold FR at hk; unfold FSc; omega))
  · rw [k1.2 132 8 (by unfold FR; omega), o.2 132 8 (fun z => z)]; exact h.2.2.1.2
theorem cMW {v : LV} {μ : GM} (h : InvV v μ) (m : Int) {c : Nat} (hc : c < nn v 0) : Rt (f_X5_milliWith m (c : Int) μ) (fun r s => MWp v m c r ∧ ScOK v μ s) := by
  have hv := h.1.2.2.1
  have n4 := nn_c hv 4 (by omega)
  have w4 := hv.2.2.2.2.1
  unfold f_X5_milliWith
  refine Rt_loop (fun f z s => k_X5_milliWith_2 f m (c : Int) z s) _ (nn v 4) (fun z s => ofr P51 nF μ s ∧ ∀ w : Nat, w < z → s.1 51 w = fm v m w) ?_ ?_ FU 0 μ (by omega) (FU_gt (by omega)) ⟨ofr.rfl, fun w hw => by omega⟩
  · intro f z s hz ⟨o, e⟩ hnext
    show Rt (k_X5_milliWith_2 (f + 1) m (c : Int) (z : Int) s) _
    have hcs : cV 22 s = v := (cV_keep o (fun k hk => by unfold P51; omega) (fun _ _ _ z => z) (by unfold P51; omega)).trans h.1.1
    rw [k_X5_milliWith_2, lcN4 hcs, lcA16 hcs, w32s (by omega)]
    have st : ∀ x, x = fm v m z → Rt (k_X5_milliWith_2 f m (c : Int) ((z + 1 : Nat) : Int) (gA s 51 z x)) (fun r s => MWp v m c r ∧ ScOK v μ s) := by
      intro x hx
      refine hnext _ ⟨o.a rfl, fun w hw => ?_⟩
      rw [gA_at]
      by_cases q : (w : Int) = z
      · rw [if_pos q, hx, q]
      · rw [if_neg q]; exact e w (by omega)
    refine Rt_pos (by omega) (Rt_if (fun q => Rt_ck (by omega) (Rt_ck (by omega) (Rt_lm (Rt_lt (st _ ?_))))) (fun q => Rt_ck (by omega) (Rt_lm (Rt_lt (st _ ?_)))))
    · unfold fm; rw [if_pos q]
    · unfold fm; rw [if_neg q]
  · intro f s ⟨o, e⟩
    show Rt (k_X5_milliWith_2 (f + 1) m (c : Int) (nn v 4 : Int) s) _
    have hcs : cV 22 s = v := (cV_keep o (fun k hk => by unfold P51; omega) (fun _ _ _ z => z) (by unfold P51; omega)).trans h.1.1
    rw [k_X5_milliWith_2, lcN4 hcs]
    refine Rt_neg (by omega) (Rt_bd (settle51 h o (fm_wf hv m) e) (fun r s2 ⟨sc, _, ho⟩ => ?_))
    rcases ho with ⟨r1, p, hp⟩ | ⟨r0, hn⟩
    · refine Rt_neg (by omega) (Rt_bde (wM_of (fm_wf hv m) hp hc) (Rt_some ⟨⟨fun _ => rfl, fun q => absurd ⟨hp.1, p, hp.2.1, hp.2.2.1⟩ q⟩, sc⟩))
    · exact Rt_pos r0 (Rt_some ⟨⟨fun q => absurd q hn, fun _ => rfl⟩, sc⟩)
