/-! the heads with some wells drawing: the other side; harm -/
def P73 : Nat → Prop := fun k => k = 73
theorem veq_73 {v : LV} {f : Int → Int} {μ s : GM} (h : veq v (mV 72 73 μ)) (o : ofr P73 nF μ s) (e : ∀ w : Nat, w < nn v 4 → s.1 73 w = f w) : veq (wrt v f) (mV 72 73 s) := by
  have A : ∀ k, k ≠ 73 → s.1 k = μ.1 k := fun k hk => o.1 k hk
  have F : ∀ k j, s.2 k j = μ.2 k j := fun k j => o.2 k j (fun z => z)
  refine ⟨fun j h1 h2 => ?_, ?_, fun k hk => ?_, fun k hk => (e k hk).symm⟩
  · match j, h1, h2 with
    | 0, _, _ => exact (h.1 0 (by omega) (by omega)).trans (A 54 (by decide)).symm
    | 1, _, _ => exact (h.1 1 (by omega) (by omega)).trans (A 55 (by decide)).symm
    | 2, _, _ => exact (h.1 2 (by omega) (by omega)).trans (A 56 (by decide)).symm
    | 3, _, _ => exact (h.1 3 (by omega) (by omega)).trans (A 57 (by decide)).symm
    | 4, _, _ => exact (h.1 4 (by omega) (by omega)).trans (A 58 (by decide)).symm
    | 5, _, z => exact absurd rfl z
    | 6, _, _ => exact (h.1 6 (by omega) (by omega)).trans (A 60 (by decide)).symm
    | 7, _, _ => exact (h.1 7 (by omega) (by omega)).trans (A 61 (by decide)).symm
    | 8, _, _ => exact (h.1 8 (by omega) (by omega)).trans (A 62 (by decide)).symm
    | 9, _, _ => exact (h.1 9 (by omega) (by omega)).trans (A 63 (by decide)).symm
    | 10, _, _ => exact (h.1 10 (by omega) (by omega)).trans (A 64 (by decide)).symm
    | 11, _, _ => exact (h.1 11 (by omega) (by omega)).trans (A 65 (by decide)).symm
    | 12, _, _ => exact (h.1 12 (by omega) (by omega)).trans (A 66 (by decide)).symm
    | 13, _, _ => exact (h.1 13 (by omega) (by omega)).trans (A 67 (by decide)).symm
    | 14, _, _ => exact (h.1 14 (by omega) (by omega)).trans (A 68 (by decide)).symm
    | 15, _, _ => exact (h.1 15 (by omega) (by omega)).trans (A 69 (by decide)).symm
    | j + 16, h, _ => omega
  · refine h.2.1.trans (funext (fun j => ?_))
    match j with
    | 0 => exact (F 53 1).symm
    | 1 => exact (F 53 5).symm
    | 2 => exact (F 53 9).symm
    | 3 => exact (F 53 14).symm
    | j + 4 => exact (F 53 18).symm
  · show v.1 5 k = s.1 72 k
    rw [A 72 (by decide)]; exact h.2.2.1 k hk
theorem mMW {v : LV} {μ : GM} (h : InvV v μ) (m : Int) {c : Nat} (hc : c < nn v 0) : Rt (f_X12_drawn (c : Int) m μ) (fun r s => MWp v m c r ∧ ScOK v μ s) := by
  have hv := h.1.2.2.1
  have n4 := nn_c hv 4 (by omega)
  have n0 := nn_c hv 0 (by omega)
  have l0 := hv.1
  have w4 := hv.2.2.2.2.1
  unfold f_X12_drawn
  refine Rt_bd (asIs_spec μ) (fun _ μ1 ⟨k1, k2, k3⟩ => ?_)
  have v1 := mV_now h.1.2.1 hv k1 k2 k3
  have e70 : μ1.1 70 = v.1 16 := by rw [k1.1 70 (by omega)]; exact lmA16 h.1.2.1
  have e18 : μ1.2 53 18 = v.2 4 := by rw [k1.2 53 18 (fun z => z)]; exact lmN4 h.1.2.1
  refine Rt_loop (fun f z s => k_X12_drawn_6 f (c : Int) m z s) _ (nn v 4) (fun z s => ofr P73 nF μ1 s ∧ ∀ w : Nat, w < z → s.1 73 w = fm v m w) ?_ ?_ FU 0 μ1 (by omega) (FU_gt (by omega)) ⟨ofr.rfl, fun w hw => by omega⟩
  · intro f z s hz ⟨o, e⟩ hnext
    show Rt (k_X12_drawn_6 (f + 1) (c : Int) m (z : Int) s) _
    have d70 : s.1 70 = v.1 16 := (o.1 70 (by unfold P73; omega)).trans e70
    have d18 : s.2 53 18 = v.2 4 := (o.2 53 18 (fun z => z)).trans e18
    rw [k_X12_drawn_6, d18, d70, w32s (by omega)]
    have st : ∀ x, x = fm v m z → Rt (k_X12_drawn_6 f (c : Int) m ((z + 1 : Nat) : Int) (gA s 73 z x)) (fun r s => MWp v m c r ∧ ScOK v μ s) := by
      intro x hx
      refine hnext _ ⟨o.a rfl, fun w hw => ?_⟩
      rw [gA_at]
      by_cases q : (w : Int) = z
      · rw [if_pos q, hx, q]
      · rw [if_neg q]; exact e w (by omega)
    refine Rt_pos (by omega) (Rt_if (fun q => Rt_ck (by omega) (Rt_ck (by omega) (Rt_lm (Rt_lt (st _ ?_))))) (fun q => Rt_ck (by omega) (Rt_lm (Rt_lt (st _ ?_)))))
    · unfold fm; rw [if_pos q]
    · unfold fm; rw [if_neg q]
  · intro f s ⟨o, e⟩
    show Rt (k_X12_drawn_6 (f + 1) (c : Int) m (nn v 4 : Int) s) _
    rw [k_X12_drawn_6, (o.2 53 18 (fun z => z)).trans e18]
    refine Rt_neg (by omega) (Rt_bd (solves_v (fm_wf hv m) (veq_73 v1 o e)) (fun r s2 ⟨j1, ho⟩ => ?_))
    have sc : ScOK v μ s2 := (ScOK.refl h).m (((k1.mono (fun k hk => by unfold PM; omega) (fun _ _ z => z.elim)).trans (o.mono (fun k hk => by unfold P73 at hk; unfold PM; omega) (fun _ _ z => z.elim))).trans (j1.mono (fun k hk => by unfold PS at hk; unfold PM; omega) (fun k j hk => by unfold FS at hk; unfold FM; omega)))
    rcases ho with ⟨r1, p, hp⟩ | ⟨r0, hn⟩
    · exact Rt_neg (by omega) (Rt_ck (by omega) (Rt_bde (wM_m (fm_wf hv m) hp hc) (Rt_some ⟨⟨fun _ => rfl, fun q => absurd ⟨hp.1, p, hp.2.1, hp.2.2.1⟩ q⟩, sc⟩)))
    · exact Rt_pos r0 (Rt_some ⟨⟨fun q => absurd q hn, fun _ => rfl⟩, sc⟩)
