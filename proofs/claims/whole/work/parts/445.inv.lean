/-! views that are alike where it matters -/
def veq (v w : LV) : Prop := (∀ j, j < 16 → j ≠ 5 → v.1 j = w.1 j) ∧ v.2 = w.2 ∧ (∀ k : Nat, k < nn v 1 → v.1 5 k = w.1 5 k) ∧ ∀ k : Nat, k < nn v 4 → v.1 16 k = w.1 16 k
theorem veq_nn {v w : LV} (h : veq v w) (j : Nat) : nn w j = nn v j := by unfold nn; rw [h.2.1]
theorem veq_refl (v : LV) : veq v v := ⟨fun _ _ _ => rfl, rfl, fun _ _ => rfl, fun _ _ => rfl⟩
theorem veq_symm {v w : LV} (h : veq v w) : veq w v := ⟨fun j a b => (h.1 j a b).symm, h.2.1.symm, fun k hk => (h.2.2.1 k (by rw [veq_nn h] at hk; exact hk)).symm, fun k hk => (h.2.2.2 k (by rw [veq_nn h] at hk; exact hk)).symm⟩
theorem veq_mat {v w : LV} (h : veq v w) (p : Int) : mat w p = mat v p := by
  have e3 := h.1 3 (by omega) (by omega)
  have e4 := h.1 4 (by omega) (by omega)
  have e6 := h.1 6 (by omega) (by omega)
  have e9 := h.1 9 (by omega) (by omega)
  have e10 := h.1 10 (by omega) (by omega)
  have e12 := h.1 12 (by omega) (by omega)
  funext i j
  unfold mat tien rund lapn xl
  rw [veq_nn h, veq_nn h, veq_nn h, e3, e4, e6, e9, e10, e12]
  congr 1
  exact sumn_congr (fun l hl => by rw [h.2.2.1 l hl])
theorem veq_src {v w : LV} (h : veq v w) (p : Int) : src w p = src v p := by
  have e1 := h.1 1 (by omega) (by omega)
  have e6 := h.1 6 (by omega) (by omega)
  have e7 := h.1 7 (by omega) (by omega)
  have e8 := h.1 8 (by omega) (by omega)
  have e9 := h.1 9 (by omega) (by omega)
  have e10 := h.1 10 (by omega) (by omega)
  have e11 := h.1 11 (by omega) (by omega)
  have e12 := h.1 12 (by omega) (by omega)
  have e13 := h.1 13 (by omega) (by omega)
  funext i
  unfold src srcr srcd srcw
  rw [veq_nn h, veq_nn h, veq_nn h, e1, e6, e7, e8, e9, e10, e11, e12, e13]
  congr 1
  exact sumn_congr (fun k hk => by rw [h.2.2.2 k hk])
theorem veq_det {v w : LV} (h : veq v w) (p : Int) : detv w p = detv v p := by unfold detv; rw [veq_mat h, veq_nn h]
theorem veq_up {v w : LV} (h : veq v w) (p : Int) : upv w p = upv v p := by funext c; unfold upv; rw [veq_mat h, veq_src h, veq_nn h]
theorem veq_fit {v w : LV} (h : veq v w) (p : Int) : fitv w p = fitv v p := by
  unfold fitv
  rw [veq_det h, veq_up h, veq_nn h, veq_nn h, h.1 8 (by omega) (by omega), h.1 6 (by omega) (by omega), h.1 11 (by omega) (by omega), h.1 10 (by omega) (by omega)]
theorem veq_isR {v w : LV} (h : veq v w) (p : Int) : isR w p = isR v p := by unfold isR; rw [veq_det h, veq_fit h]
theorem veq_okp {v w : LV} (h : veq v w) (p : Int) : okp w p = okp v p := by unfold okp; rw [h.2.1]
theorem veq_hasR {v w : LV} (h : veq v w) : hasR w = hasR v := by
  unfold hasR
  rw [veq_nn h]
  have : (fun p => okp w p ∧ isR w p) = (fun p => okp v p ∧ isR v p) := by funext p; rw [veq_okp h, veq_isR h]
  rw [this]
theorem veq_wf {v w : LV} (h : veq v w) (hv : wfL v) : wfL w := by
  have e1 := h.1 1 (by omega) (by omega)
  have e3 := h.1 3 (by omega) (by omega)
  have e4 := h.1 4 (by omega) (by omega)
  have e6 := h.1 6 (by omega) (by omega)
  have e7 := h.1 7 (by omega) (by omega)
  have e8 := h.1 8 (by omega) (by omega)
  have e9 := h.1 9 (by omega) (by omega)
  have e10 := h.1 10 (by omega) (by omega)
  have e11 := h.1 11 (by omega) (by omega)
  have e12 := h.1 12 (by omega) (by omega)
  have e13 := h.1 13 (by omega) (by omega)
  obtain ⟨a0, a1, a2, a3, a4, a5, a6, a7, a8, a9⟩ := hv
  unfold wfL
  rw [← h.2.1, veq_nn h, veq_nn h, veq_nn h, veq_nn h, veq_nn h, ← e1, ← e3, ← e4, ← e6, ← e7, ← e8, ← e9, ← e10, ← e11, ← e12, ← e13]
  refine ⟨a0, a1, a2, a3, a4, a5, fun l hl => ?_, a7, a8, fun k hk => ?_⟩
  · rw [← h.2.2.1 l hl]; exact a6 l hl
  · rw [← h.2.2.2 k hk]; exact a9 k hk
theorem veq_adj {v w : LV} (h : veq v w) {p D : Int} {m : Nat → Nat → Int} : adjOK w p D m = adjOK v p D m := by
  unfold adjOK; rw [veq_det h, veq_mat h, veq_nn h]
theorem veq_slot {v w : LV} (h : veq v w) {t : Nat} {μ : GM} {z : Nat} {p : Int} : slotOK w t μ z p = slotOK v t μ z p := by
  unfold slotOK
  rw [veq_det h, veq_nn h]
  have : (fun m => adjOK w p (detv v p) m ∧ ∀ i j, i < nn v 0 → j < nn v 0 → μ.1 (t + 6 + z) (ix i j) = m i j) = (fun m => adjOK v p (detv v p) m ∧ ∀ i j, i < nn v 0 → j < nn v 0 → μ.1 (t + 6 + z) (ix i j) = m i j) := by
    funext m; rw [veq_adj h]
  rw [this]
theorem veq_cache {v w : LV} (h : veq v w) {t : Nat} {μ : GM} : cacheOK w t μ = cacheOK v t μ := by
  unfold cacheOK
  have : (fun z : Nat => z < gSl t → μ.1 (t + 1) z ≠ -10000009 → slotOK w t μ z (μ.1 (t + 1) z)) = (fun z : Nat => z < gSl t → μ.1 (t + 1) z ≠ -10000009 → slotOK v t μ z (μ.1 (t + 1) z)) := by
    funext z; rw [veq_slot h]
  rw [show (∀ z : Nat, z < gSl t → μ.1 (t + 1) z ≠ -10000009 → slotOK w t μ z (μ.1 (t + 1) z)) = (∀ z : Nat, (fun z : Nat => z < gSl t → μ.1 (t + 1) z ≠ -10000009 → slotOK w t μ z (μ.1 (t + 1) z)) z) from rfl, this]
theorem veq_restAt {v w : LV} (h : veq v w) {t : Nat} {μ : GM} {p : Int} : restAt w t μ p = restAt v t μ p := by
  unfold restAt; rw [veq_nn h, veq_okp h, veq_isR h, veq_det h, veq_up h]
theorem veq_restM {v w : LV} (h : veq v w) {μ : GM} {p : Int} : restM w μ p = restM v μ p := by
  unfold restM; rw [veq_nn h, veq_okp h, veq_isR h, veq_det h, veq_up h]
theorem settle_v {t b : Nat} (ht : gRt t) {v : LV} (hv : wfL v) (hb : b < 53) {μ0 : GM} (hc : veq v (cV b μ0)) (hsl : μ0.2 t 1 = (gSl t : Int)) (hca : cacheOK v t μ0) (hg : okp v (μ0.2 t 8)) :
    Rt (f_X6_settle t b μ0) (fun r μ => ofr (PR t) (FR t) μ0 μ ∧ cacheOK v t μ ∧ okp v (μ.2 t 8) ∧ ((r = 1 ∧ ∃ p, restAt v t μ p) ∨ (r = 0 ∧ ¬ hasR v))) := by
  refine (settle_spec ht (veq_wf hc hv) hb rfl hsl (by rw [veq_cache hc]; exact hca) (by rw [veq_okp hc]; exact hg)).mono (fun r μ h => ?_)
  rw [veq_cache hc, veq_okp hc, veq_hasR hc] at h
  refine ⟨h.1, h.2.1, h.2.2.1, h.2.2.2.imp (fun a => ⟨a.1, ?_⟩) id⟩
  obtain ⟨p, hp⟩ := a.2
  rw [veq_restAt hc] at hp
  exact ⟨p, hp⟩
theorem solves_v {v : LV} (hv : wfL v) {μ0 : GM} (hc : veq v (mV 72 73 μ0)) :
    Rt (f_X12_solves μ0) (fun r μ => ofr PS FS μ0 μ ∧ ((r = 1 ∧ ∃ p, restM v μ p) ∨ (r = 0 ∧ ¬ hasR v))) := by
  refine (solves_spec (veq_wf hc hv) rfl).mono (fun r μ h => ?_)
  rw [veq_hasR hc] at h
  refine ⟨h.1, h.2.imp (fun a => ⟨a.1, ?_⟩) id⟩
  obtain ⟨p, hp⟩ := a.2
  rw [veq_restM hc] at hp
  exact ⟨p, hp⟩
/-! what holds between two calls -/
def wfX (v : LV) : Prop := (∀ c : Nat, c < nn v 0 → (0 ≤ v.1 0 c ∧ v.1 0 c ≤ 500) ∧ 1 ≤ v.1 2 c ∧ v.1 2 c ≤ 9) ∧ (∀ w : Nat, w < nn v 4 → (0 ≤ v.1 14 w ∧ v.1 14 w ≤ 99) ∧ (0 ≤ v.1 15 w ∧ v.1 15 w ≤ 99) ∧ v.1 16 w ≤ v.1 14 w) ∧ ∀ w : Nat, nn v 4 ≤ w → v.1 16 w = 0
def LI (v : LV) (μ : GM) : Prop := cV 22 μ = v ∧ mV 59 70 μ = v ∧ wfL v ∧ wfX v
def RA (v : LV) (μ : GM) : Prop := μ.2 94 1 = 32 ∧ cacheOK v 94 μ ∧ okp v (μ.2 94 8)
def RB (v : LV) (μ : GM) : Prop := μ.2 132 1 = 1 ∧ okp v (μ.2 132 8)
def CI (μ : GM) : Prop := μ.1 28 = μ.1 79 ∧ μ.1 29 = μ.1 81 ∧ (∀ c : Int, 0 ≤ μ.1 28 c ∧ μ.1 28 c ≤ 1000000) ∧ ∀ i : Int, r64 (μ.1 29 i)
def WI (v : LV) (μ : GM) : Prop := μ.2 31 2 = μ.2 53 37 ∧ (0 ≤ μ.2 31 2 ∧ μ.2 31 2 ≤ 5) ∧ μ.1 32 = μ.1 82 ∧ μ.1 33 = μ.1 83 ∧ ∀ w : Nat, (w : Int) < μ.2 31 2 → (0 ≤ μ.1 32 w ∧ μ.1 32 w < v.2 1) ∧ 1 ≤ μ.1 33 w ∧ μ.1 33 w ≤ 9
def SI (μ : GM) : Prop := μ.1 34 = μ.1 85 ∧ ∀ c : Int, (-9000000 ≤ μ.1 34 c ∧ μ.1 34 c ≤ 9000000) ∧ ((μ.1 84 c = 1 ∧ μ.1 35 c = μ.1 86 c ∧ 0 ≤ μ.1 35 c ∧ μ.1 35 c ≤ 100000) ∨ (μ.1 84 c = 0 ∧ μ.1 35 c = -1))
def PI (μ : GM) : Prop := μ.2 42 2 = μ.2 53 44 ∧ (0 ≤ μ.2 42 2 ∧ μ.2 42 2 ≤ 200) ∧ μ.1 43 = μ.1 88 ∧ ∀ i : Nat, (i : Int) < μ.2 42 2 → 32 ≤ μ.1 43 i ∧ μ.1 43 i ≤ 126
def QI (μ : GM) : Prop := μ.1 48 = μ.1 92 ∧ ∀ c : Int, μ.1 48 c = -10000009 ∨ (0 ≤ μ.1 48 c ∧ μ.1 48 c ≤ 2000000)
def InvV (v : LV) (μ : GM) : Prop := LI v μ ∧ RA v μ ∧ RB v μ ∧ CI μ ∧ WI v μ ∧ SI μ ∧ PI μ ∧ QI μ
def PSc : Nat → Prop := fun k => (23 ≤ k ∧ k ≤ 26) ∨ k = 30 ∨ (37 ≤ k ∧ k ≤ 41) ∨ (44 ≤ k ∧ k ≤ 46) ∨ (49 ≤ k ∧ k ≤ 52) ∨ (71 ≤ k ∧ k ≤ 78) ∨ k = 80 ∨ k = 87 ∨ (89 ≤ k ∧ k ≤ 91) ∨ k = 93 ∨ 95 ≤ k
def FSc : Nat → Nat → Prop := fun k j => (k = 23 ∧ j = 2) ∨ (k = 42 ∧ (j = 4 ∨ j = 5 ∨ j = 6 ∨ j = 10)) ∨ (k = 53 ∧ (j = 0 ∨ j = 24 ∨ j = 25 ∨ j = 31 ∨ j = 50 ∨ j = 51 ∨ j = 52)) ∨ ((k = 94 ∨ k = 132) ∧ (j = 7 ∨ j = 8))
def PM : Nat → Prop := fun k => (71 ≤ k ∧ k ≤ 78) ∨ k = 80 ∨ k = 87 ∨ (89 ≤ k ∧ k ≤ 91) ∨ k = 93
def FM : Nat → Nat → Prop := fun k j => k = 53 ∧ (j = 0 ∨ j = 24 ∨ j = 25 ∨ j = 31 ∨ j = 50 ∨ j = 51 ∨ j = 52)
def ScOK (v : LV) (μ ν : GM) : Prop := ofr PSc FSc μ ν ∧ cacheOK v 94 ν ∧ okp v (ν.2 94 8) ∧ okp v (ν.2 132 8)
theorem ScOK.refl {v : LV} {μ : GM} (h : InvV v μ) : ScOK v μ μ := ⟨ofr.rfl, h.2.1.2.1, h.2.1.2.2, h.2.2.1.2⟩
theorem ScOK.trans {v : LV} {μ ν ρ : GM} (h : ScOK v μ ν) (g : ScOK v ν ρ) : ScOK v μ ρ := ⟨h.1.trans g.1, g.2⟩
theorem ofr_PM {μ ν : GM} (h : ofr PM FM μ ν) : ofr PSc FSc μ ν := h.mono (fun k hk => by unfold PM at hk; unfold PSc; omega) (fun k j hk => by unfold FM at hk; unfold FSc; omega)
theorem ScOK.m {v : LV} {μ ν ρ : GM} (h : ScOK v μ ν) (g : ofr PM FM ν ρ) : ScOK v μ ρ := by
  refine ⟨h.1.trans (ofr_PM g), ?_, ?_, ?_⟩
  · exact cache_keep h.2.1 (g.1 _ (by unfold PM; omega)) (g.1 _ (by unfold PM; omega)) (fun z _ => g.1 _ (by unfold PM; omega))
  · rw [g.2 94 8 (by unfold FM; omega)]; exact h.2.2.1
  · rw [g.2 132 8 (by unfold FM; omega)]; exact h.2.2.2
theorem InvV.sc {v : LV} {μ ν : GM} (h : InvV v μ) (s : ScOK v μ ν) : InvV v ν := by
  obtain ⟨⟨a1, a2, a3, a4⟩, ⟨b1, b2, b3⟩, ⟨c1, c2⟩, d, e, f, g, q⟩ := h
  obtain ⟨s1, s2, s3, s4⟩ := s
  have A : ∀ k, ¬ PSc k → ν.1 k = μ.1 k := s1.1
  have F : ∀ k j, ¬ FSc k j → ν.2 k j = μ.2 k j := s1.2
  have t28 := A 28 (by unfold PSc; omega)
  have t29 := A 29 (by unfold PSc; omega)
  have t32 := A 32 (by unfold PSc; omega)
  have t33 := A 33 (by unfold PSc; omega)
  have t34 := A 34 (by unfold PSc; omega)
  have t35 := A 35 (by unfold PSc; omega)
  have t43 := A 43 (by unfold PSc; omega)
  have t48 := A 48 (by unfold PSc; omega)
  have t79 := A 79 (by unfold PSc; omega)
  have t81 := A 81 (by unfold PSc; omega)
  have t82 := A 82 (by unfold PSc; omega)
  have t83 := A 83 (by unfold PSc; omega)
  have t84 := A 84 (by unfold PSc; omega)
  have t85 := A 85 (by unfold PSc; omega)
  have t86 := A 86 (by unfold PSc; omega)
  have t88 := A 88 (by unfold PSc; omega)
  have t92 := A 92 (by unfold PSc; omega)
  have u31 := F 31 2 (by unfold FSc; omega)
  have u37 := F 53 37 (by unfold FSc; omega)
  have u42 := F 42 2 (by unfold FSc; omega)
  have u44 := F 53 44 (by unfold FSc; omega)
  refine ⟨⟨?_, ?_, a3, a4⟩, ⟨?_, s2, s3⟩, ⟨?_, s4⟩, ?_, ?_, ?_, ?_, ?_⟩
  · exact (cV_keep s1 (fun k hk => by unfold PSc; omega) (fun k j hk => by unfold FSc; omega) (by unfold PSc; omega)).trans a1
  · exact (mV_keep s1 (fun k hk hk2 => by unfold PSc; omega) (fun j hj0 hj => by unfold FSc; omega) (by unfold PSc; omega) (by unfold PSc; omega)).trans a2
  · rw [F 94 1 (by unfold FSc; omega)]; exact b1
  · rw [F 132 1 (by unfold FSc; omega)]; exact c1
  · unfold CI; rw [t28, t29, t79, t81]; exact d
  · unfold WI; rw [u31, u37, t32, t33, t82, t83]; exact e
  · unfold SI; rw [t34, t35, t84, t85, t86]; exact f
  · unfold PI; rw [u42, u44, t43, t88]; exact g
  · unfold QI; rw [t48, t92]; exact q
def PrOK (f g : GM → Option (Int × GM)) (μ : GM) : Prop := Rt (f μ) (fun r μ1 => Rt (g μ1) (fun r' μ2 => r' = r ∧ ∃ v, InvV v μ2))
theorem q_ok {f g : GM → Option (Int × GM)} {v : LV} {μ : GM} (h : InvV v μ) (val : Int) (hf : ∀ μ, InvV v μ → Rt (f μ) (fun r μ1 => r = val ∧ ScOK v μ μ1)) (hg : ∀ μ, InvV v μ → Rt (g μ) (fun r μ1 => r = val ∧ ScOK v μ μ1)) : PrOK f g μ := by
  refine (hf μ h).mono (fun r μ1 h1 => ?_)
  have i1 := h.sc h1.2
  refine (hg μ1 i1).mono (fun r' μ2 h2 => ⟨by rw [h1.1, h2.1], v, i1.sc h2.2⟩)
/-! the rest of the one side and of the other, as they are asked -/
theorem atRest_spec {v : LV} {μ : GM} (h : InvV v μ) : Rt (f_X11_atRest μ) (fun r μ1 => ScOK v μ μ1 ∧ ((r = 1 ∧ ∃ p, restAt v 94 μ1 p) ∨ (r = 0 ∧ ¬ hasR v))) := by
  unfold f_X11_atRest
  obtain ⟨⟨a1, a2, a3, a4⟩, ⟨b1, b2, b3⟩, ⟨c1, c2⟩, -⟩ := h
  refine Rt_bd (settle_v (t := 94) (b := 22) gRt_A a3 (by omega) (by rw [a1]; exact veq_refl v) b1 b2 b3) (fun r μ1 ⟨k1, k2, k3, k4⟩ => ?_)
  have sc : ScOK v μ μ1 := by
    refine ⟨k1.mono (fun k hk => ?_) (fun k j hk => ?_), k2, k3, ?_⟩
    · unfold PR at hk; unfold PSc; omega
    · unfold FR at hk; unfold FSc; omega
    · rw [k1.2 132 8 (fun z => by unfold FR at z; omega)]; exact c2
  rcases k4 with ⟨r1, hp⟩ | ⟨r0, hn⟩
  · subst r1; exact Rt_some ⟨sc, Or.inl ⟨rfl, hp⟩⟩
  · subst r0; exact Rt_some ⟨sc, Or.inr ⟨rfl, hn⟩⟩
theorem asIs_spec (μ : GM) : Rt (f_X12_asIs μ) (fun _ μ1 => ofr (fun k => k = 72 ∨ k = 73) nF μ μ1 ∧ (∀ l : Nat, l < 12 → μ1.1 72 l = μ.1 59 l) ∧ ∀ w : Nat, w < 3 → μ1.1 73 w = μ.1 70 w) := by
  unfold f_X12_asIs
  refine Rt_loop (fun f z s => k_X12_asIs_2 f z s) _ 12 (fun z s => ofr (fun k => k = 72 ∨ k = 73) nF μ s ∧ ∀ l : Nat, l < z → s.1 72 l = μ.1 59 l) ?_ ?_ FU 0 μ (by omega) (FU_gt (by omega)) ⟨ofr.rfl, fun l h => by omega⟩
  · intro f z s hz ⟨hs, hm⟩ hnext
    show Rt (k_X12_asIs_2 (f + 1) (z : Int) s) _
    rw [k_X12_asIs_2, hs.1 59 (by omega)]
    refine Rt_pos (by omega) (Rt_ck (by omega) (Rt_ck (by omega) (Rt_lm (Rt_lt ?_))))
    rw [w32s (by omega)]
    refine hnext _ ⟨hs.a (Or.inl rfl), fun l hl => ?_⟩
    rw [gA_at]
    by_cases q : (l : Int) = (z : Int)
    · rw [if_pos q, q]
    · rw [if_neg q]; exact hm l (by omega)
  intro f s ⟨hs, hm⟩
  show Rt (k_X12_asIs_2 (f + 1) ((12 : Nat) : Int) s) _
  rw [k_X12_asIs_2]
  refine Rt_neg (by omega) ?_
  refine Rt_loop (fun f z s => k_X12_asIs_28 f z s) _ 3 (fun z s => ofr (fun k => k = 72 ∨ k = 73) nF μ s ∧ (∀ l : Nat, l < 12 → s.1 72 l = μ.1 59 l) ∧ ∀ w : Nat, w < z → s.1 73 w = μ.1 70 w) ?_ ?_ FU 0 s (by omega) (FU_gt (by omega)) ⟨hs, hm, fun l h => by omega⟩
  · intro f z s hz ⟨hs, hm, hw⟩ hnext
    show Rt (k_X12_asIs_28 (f + 1) (z : Int) s) _
    rw [k_X12_asIs_28, hs.1 70 (by omega)]
    refine Rt_pos (by omega) (Rt_ck (by omega) (Rt_ck (by omega) (Rt_lm (Rt_lt ?_))))
    rw [w32s (by omega)]
    refine hnext _ ⟨hs.a (Or.inr rfl), fun l hl => by rw [gA_nk _ _ _ (by decide)]; exact hm l hl, fun l hl => ?_⟩
    rw [gA_at]
    by_cases q : (l : Int) = (z : Int)
    · rw [if_pos q, q]
    · rw [if_neg q]; exact hw l (by omega)
  · intro f s ⟨hs, hm, hw⟩
    show Rt (k_X12_asIs_28 (f + 1) ((3 : Nat) : Int) s) _
    rw [k_X12_asIs_28]
    exact Rt_neg (by omega) (Rt_some ⟨hs, hm, hw⟩)
theorem mV_now {v : LV} {μ ν : GM} (h : mV 59 70 μ = v) (hv : wfL v) (hs : ofr (fun k => k = 72 ∨ k = 73) nF μ ν) (h72 : ∀ l : Nat, l < 12 → ν.1 72 l = μ.1 59 l) (h73 : ∀ w : Nat, w < 3 → ν.1 73 w = μ.1 70 w) : veq v (mV 72 73 ν) := by
  have l1 := hv.2.1
  have l4 := hv.2.2.2.2.1
  have n1 := nn_c hv 1 (by omega)
  have n4 := nn_c hv 4 (by omega)
  subst h
  refine ⟨fun j hj h5 => ?_, ?_, fun k hk => ?_, fun k hk => ?_⟩
  · unfold mV
    match j, hj, h5 with
    | 0, _, _ => exact (hs.1 54 (by omega)).symm
    | 1, _, _ => exact (hs.1 55 (by omega)).symm
    | 2, _, _ => exact (hs.1 56 (by omega)).symm
    | 3, _, _ => exact (hs.1 57 (by omega)).symm
    | 4, _, _ => exact (hs.1 58 (by omega)).symm
    | 6, _, _ => exact (hs.1 60 (by omega)).symm
    | 7, _, _ => exact (hs.1 61 (by omega)).symm
    | 8, _, _ => exact (hs.1 62 (by omega)).symm
    | 9, _, _ => exact (hs.1 63 (by omega)).symm
    | 10, _, _ => exact (hs.1 64 (by omega)).symm
    | 11, _, _ => exact (hs.1 65 (by omega)).symm
    | 12, _, _ => exact (hs.1 66 (by omega)).symm
    | 13, _, _ => exact (hs.1 67 (by omega)).symm
    | 14, _, _ => exact (hs.1 68 (by omega)).symm
    | 15, _, _ => exact (hs.1 69 (by omega)).symm
    | j + 16, h, _ => omega
  · unfold mV
    funext j
    match j with
    | 0 => exact (hs.2 53 1 (fun z => z)).symm
    | 1 => exact (hs.2 53 5 (fun z => z)).symm
    | 2 => exact (hs.2 53 9 (fun z => z)).symm
    | 3 => exact (hs.2 53 14 (fun z => z)).symm
    | j + 4 => exact (hs.2 53 18 (fun z => z)).symm
  · exact (h72 k (by omega)).symm
  · exact (h73 k (by omega)).symm
theorem rests_spec {v : LV} {μ : GM} (h : InvV v μ) : Rt (f_X12_rests μ) (fun r μ1 => ofr PM FM μ μ1 ∧ (∀ l : Nat, l < 12 → μ1.1 72 l = μ.1 59 l) ∧ (∀ w : Nat, w < 3 → μ1.1 73 w = μ.1 70 w) ∧ ((r = 1 ∧ ∃ p, restM v μ1 p) ∨ (r = 0 ∧ ¬ hasR v))) := by
  unfold f_X12_rests
  obtain ⟨⟨a1, a2, a3, a4⟩, -⟩ := h
  refine Rt_bd (asIs_spec μ) (fun _ μ1 ⟨k1, k2, k3⟩ => ?_)
  refine Rt_bd (solves_v a3 (mV_now a2 a3 k1 k2 k3)) (fun r μ2 ⟨j1, j2⟩ => ?_)
  have o : ofr PM FM μ μ2 := (k1.mono (fun k hk => by unfold PM; omega) (fun _ _ z => z.elim)).trans (j1.mono (fun k hk => by unfold PS at hk; unfold PM; omega) (fun k j hk => by unfold FS at hk; unfold FM; omega))
  have e72 : ∀ l : Nat, l < 12 → μ2.1 72 l = μ.1 59 l := fun l hl => by rw [j1.1 72 (by unfold PS; omega)]; exact k2 l hl
  have e73 : ∀ l : Nat, l < 3 → μ2.1 73 l = μ.1 70 l := fun l hl => by rw [j1.1 73 (by unfold PS; omega)]; exact k3 l hl
  rcases j2 with ⟨r1, hp⟩ | ⟨r0, hn⟩
  · subst r1; exact Rt_some ⟨o, e72, e73, Or.inl ⟨rfl, hp⟩⟩
  · subst r0; exact Rt_some ⟨o, e72, e73, Or.inr ⟨rfl, hn⟩⟩
