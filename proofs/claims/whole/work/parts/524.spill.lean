/-! spill -/
def isEnd (v : LV) (e : Int) : Prop := (0 ≤ e ∧ e < v.2 0) ∨ (100 ≤ e ∧ e < 100 + v.2 2) ∨ (200 ≤ e ∧ e < 200 + v.2 3) ∨ (300 ≤ e ∧ e < 300 + v.2 4)
theorem w32_def (x : Int) : w32 x = if x % 4294967296 < 2147483648 then x % 4294967296 else x % 4294967296 - 4294967296 := by
  unfold w32
  rw [Int32.toInt_ofInt]
  rfl
theorem wsub {e k n : Int} (h1 : -2147483648 ≤ e) (h2 : e ≤ 2147483647) (hk : 0 ≤ k ∧ k ≤ 300) (hn : n ≤ 12) : (0 ≤ w32 (e - k) ∧ w32 (e - k) < n) ↔ (k ≤ e ∧ e < k + n) := by
  rw [w32_def]
  split <;> omega
theorem hasEnd_y {v : LV} (hv : wfL v) {μ : GM} (hc : cV 22 μ = v) {e : Int} (h1 : -2147483648 ≤ e) (h2 : e ≤ 2147483647) (h : isEnd v e) : f_X2_hasEnd e μ = some (1, μ) := by
  have l2 := hv.2.2.1
  have l3 := hv.2.2.2.1
  have l4 := hv.2.2.2.2.1
  unfold isEnd at h
  unfold f_X2_hasEnd
  by_cases q0 : 0 ≤ e ∧ e < v.2 0
  · rw [hasCell_y (lcN0 hc) q0, bdS_eq, if_neg (by decide)]; rfl
  rw [hasCell_n (lcN0 hc) q0, bdS_eq, if_pos rfl]
  by_cases q1 : 100 ≤ e ∧ e < 100 + v.2 2
  · rw [hasRiver_y (lcN2 hc) ((wsub h1 h2 (by omega) (by omega)).mpr q1), bdS_eq, if_neg (by decide)]; rfl
  rw [hasRiver_n (lcN2 hc) (fun z => q1 ((wsub h1 h2 (by omega) (by omega)).mp z)), bdS_eq, if_pos rfl]
  by_cases q2 : 200 ≤ e ∧ e < 200 + v.2 3
  · rw [hasDrain_y (lcN3 hc) ((wsub h1 h2 (by omega) (by omega)).mpr q2), bdS_eq, if_neg (by decide)]; rfl
  rw [hasDrain_n (lcN3 hc) (fun z => q2 ((wsub h1 h2 (by omega) (by omega)).mp z)), bdS_eq, if_pos rfl]
  have q3 : 300 ≤ e ∧ e < 300 + v.2 4 := by omega
  rw [hasWell_y (lcN4 hc) ((wsub h1 h2 (by omega) (by omega)).mpr q3), bdS_eq, if_neg (by decide)]; rfl
theorem hasEnd_n {v : LV} (hv : wfL v) {μ : GM} (hc : cV 22 μ = v) {e : Int} (h1 : -2147483648 ≤ e) (h2 : e ≤ 2147483647) (h : ¬ isEnd v e) : f_X2_hasEnd e μ = some (0, μ) := by
  have l2 := hv.2.2.1
  have l3 := hv.2.2.2.1
  have l4 := hv.2.2.2.2.1
  unfold isEnd at h
  have q0 : ¬ (0 ≤ e ∧ e < v.2 0) := by omega
  have q1 : ¬ (100 ≤ e ∧ e < 100 + v.2 2) := by omega
  have q2 : ¬ (200 ≤ e ∧ e < 200 + v.2 3) := by omega
  have q3 : ¬ (300 ≤ e ∧ e < 300 + v.2 4) := by omega
  unfold f_X2_hasEnd
  rw [hasCell_n (lcN0 hc) q0, bdS_eq, if_pos rfl]
  rw [hasRiver_n (lcN2 hc) (fun z => q1 ((wsub h1 h2 (by omega) (by omega)).mp z)), bdS_eq, if_pos rfl]
  rw [hasDrain_n (lcN3 hc) (fun z => q2 ((wsub h1 h2 (by omega) (by omega)).mp z)), bdS_eq, if_pos rfl]
  rw [hasWell_n (lcN4 hc) (fun z => q3 ((wsub h1 h2 (by omega) (by omega)).mp z)), bdS_eq, if_pos rfl]; rfl
theorem mEnd {v : LV} (hv : wfL v) {μ : GM} (hm : mV 59 70 (gF μ 53 0 0) = v) {z e : Int} {Q : Int → GM → Prop} (Hy : isEnd v e → Rt (k_X12_spill_85 z e 1 (gF μ 53 0 0)) Q) (Hn : ¬ isEnd v e → Rt (k_X12_spill_85 z e 0 (gF μ 53 0 0)) Q) : Rt (f_X12_spill z e μ) Q := by
  have l0 := hv.1
  have l2 := hv.2.2.1
  have l3 := hv.2.2.2.1
  have l4 := hv.2.2.2.2.1
  unfold isEnd at Hy Hn
  unfold f_X12_spill
  refine Rt_lm ?_
  rw [lmN0 hm, w32i (by omega) (by omega)]
  by_cases q0 : 0 ≤ e ∧ e ≤ v.2 0 - 1
  · exact Rt_bde (in_y q0) (Rt_neg (by decide) (Hy (by omega)))
  refine Rt_bde (in_n q0) (Rt_pos rfl ?_)
  rw [lmN2 hm, w32i (by omega) (by omega)]
  by_cases q1 : 100 ≤ e ∧ e ≤ 99 + v.2 2
  · exact Rt_bde (in_y q1) (Rt_neg (by decide) (Hy (by omega)))
  refine Rt_bde (in_n q1) (Rt_pos rfl ?_)
  rw [lmN3 hm, w32i (by omega) (by omega)]
  by_cases q2 : 200 ≤ e ∧ e ≤ 199 + v.2 3
  · exact Rt_bde (in_y q2) (Rt_neg (by decide) (Hy (by omega)))
  refine Rt_bde (in_n q2) (Rt_pos rfl ?_)
  rw [lmN4 hm, w32i (by omega) (by omega)]
  by_cases q3 : 300 ≤ e ∧ e ≤ 299 + v.2 4
  · exact Rt_bde (in_y q3) (Rt_neg (by decide) (Hy (by omega)))
  exact Rt_bde (in_n q3) (Rt_pos rfl (Hn (by omega)))
theorem ok_spill {v : LV} {μ : GM} (h : InvV v μ) (z e : Int) (h1 : -2147483648 ≤ e) (h2 : e ≤ 2147483647) : PrOK (f_X11_spill z e) (f_X12_spill z e) μ := by
  have hv := h.1.2.2.1
  have n0 := nn_c hv 0 (by omega)
  have l0 := hv.1
  by_cases q : 0 ≤ z ∧ z < v.2 0
  · by_cases qe : isEnd v e
    · obtain ⟨c, hc⟩ : ∃ c : Nat, z = c := ⟨z.toNat, by omega⟩
      subst hc
      have hcn : c < nn v 0 := by omega
      have he : (0 ≤ e ∧ e < v.2 0) ∨ 100 ≤ e := by unfold isEnd at qe; omega
      obtain ⟨tot, hn, hy⟩ := rest_val hv (-10000003) (fun p => spv v p e c)
      refine q_ok h tot (fun μ h => ?_) (fun μ h => ?_)
      · unfold f_X11_spill
        refine Rt_bde (hasCell_y (lcN0 h.1.1) q) (Rt_neg (by decide) (Rt_bde (hasEnd_y hv h.1.1 h1 h2 qe) (Rt_neg (by decide) (Rt_bd (atRest_spec h) (fun r s ⟨sc, ho⟩ => ?_)))))
        rcases ho with ⟨r1, p, hp⟩ | ⟨r0, hno⟩
        · have i1 := h.sc sc
          refine Rt_neg (by omega) (Rt_bd (cparts hv i1.1.1 hp hcn he) (fun r2 s2 ⟨e2, o2⟩ => Rt_some ⟨?_, ?_⟩))
          · rw [e2]; exact (hy p hp.1 hp.2.1 hp.2.2.1).symm
          · exact sc.o o2 (fun k hk => by unfold Pw at hk; unfold PSc; omega) (fun k j hk => by unfold FGc at hk; unfold FSc; omega)
        · exact Rt_pos r0 (Rt_some ⟨(hn hno).symm, sc⟩)
      · obtain ⟨i1, sc1⟩ := inv_thr h
        refine mEnd hv i1.1.2.1 (fun _ => ?_) (fun w => absurd qe w)
        unfold k_X12_spill_85
        refine Rt_bde (noCell_y (lmN0 i1.1.2.1) (lim0 hv) q) (Rt_pos rfl (Rt_neg (by decide) (Rt_bd (rests_spec i1) (fun r2 s2 ⟨m1, m2, m3, ho⟩ => ?_))))
        have sc2 : ScOK v (gF μ 53 0 0) s2 := (ScOK.refl i1).m m1
        have i2 := i1.sc sc2
        rcases ho with ⟨r1, p, hp⟩ | ⟨r0, hno⟩
        · have hve : veq v (mV 72 73 s2) := mV_now i2.1.2.1 hv ofr.rfl (fun l hl => by rw [m2 l hl, m1.1 59 (by unfold PM; omega)]) (fun l hl => by rw [m3 l hl, m1.1 70 (by unfold PM; omega)])
          refine Rt_neg (by omega) ((mparts hv i2.1.2.1 hve hp hcn he).mono (fun r3 s3 ⟨e3, o3⟩ => ⟨?_, ?_⟩))
          · rw [e3]; exact (hy p hp.1 hp.2.1 hp.2.2.1).symm
          · exact (sc1.trans sc2).m (o3.mono (fun k hk => by unfold Pm3 at hk; unfold PM; omega) (fun k j hk => by unfold FGm at hk; unfold FM; omega))
        · exact Rt_pos r0 (Rt_some ⟨(hn hno).symm, sc1.trans sc2⟩)
    · refine q_ok h (-10000001) (fun μ h => ?_) (fun μ h => ?_)
      · unfold f_X11_spill
        exact Rt_bde (hasCell_y (lcN0 h.1.1) q) (Rt_neg (by decide) (Rt_bde (hasEnd_n hv h.1.1 h1 h2 qe) (Rt_pos rfl (Rt_some ⟨rfl, ScOK.refl h⟩))))
      · obtain ⟨i1, sc1⟩ := inv_thr h
        refine mEnd hv i1.1.2.1 (fun w => absurd w qe) (fun _ => ?_)
        unfold k_X12_spill_85
        exact Rt_bde (noCell_y (lmN0 i1.1.2.1) (lim0 hv) q) (Rt_pos rfl (Rt_pos rfl (Rt_some ⟨rfl, sc1⟩)))
  · refine q_ok h (-10000001) (fun μ h => ?_) (fun μ h => ?_)
    · unfold f_X11_spill
      exact Rt_bde (hasCell_n (lcN0 h.1.1) q) (Rt_pos rfl (Rt_some ⟨rfl, ScOK.refl h⟩))
    · obtain ⟨i1, sc1⟩ := inv_thr h
      have g : ∀ x, Rt (k_X12_spill_85 z e x (gF μ 53 0 0)) (fun r μ1 => r = -10000001 ∧ ScOK v μ μ1) := fun x => by
        unfold k_X12_spill_85
        exact Rt_bde (noCell_n (lmN0 i1.1.2.1) (lim0 hv) q) (Rt_neg (by decide) (Rt_some ⟨rfl, sc1⟩))
      exact mEnd hv i1.1.2.1 (fun _ => g 1) (fun _ => g 0)
