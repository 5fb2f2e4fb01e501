/-! asking for the rest -/
theorem inv_thr {v : LV} {μ : GM} (h : InvV v μ) : InvV v (gF μ 53 0 0) ∧ ScOK v μ (gF μ 53 0 0) := by
  have s : ScOK v μ (gF μ 53 0 0) := (ScOK.refl h).m (ofr.rfl.f (show FM 53 0 from ⟨rfl, Or.inl rfl⟩))
  exact ⟨h.sc s, s⟩
theorem hasCell_y {z n : Int} {μ : GM} (hn : μ.2 1 0 = n) (h : 0 ≤ z ∧ z < n) : f_X2_hasCell z μ = some (1, μ) := by
  unfold f_X2_hasCell; rw [if_neg (by omega), if_pos (by omega)]; rfl
theorem hasCell_n {z n : Int} {μ : GM} (hn : μ.2 1 0 = n) (h : ¬ (0 ≤ z ∧ z < n)) : f_X2_hasCell z μ = some (0, μ) := by
  unfold f_X2_hasCell
  by_cases q : z < 0
  · rw [if_pos q]; rfl
  · rw [if_neg q, if_neg (by omega)]; rfl
theorem hasLink_y {z n : Int} {μ : GM} (hn : μ.2 5 0 = n) (h : 0 ≤ z ∧ z < n) : f_X3_has z μ = some (1, μ) := by
  unfold f_X3_has; rw [if_neg (by omega), if_pos (by omega)]; rfl
theorem hasLink_n {z n : Int} {μ : GM} (hn : μ.2 5 0 = n) (h : ¬ (0 ≤ z ∧ z < n)) : f_X3_has z μ = some (0, μ) := by
  unfold f_X3_has
  by_cases q : z < 0
  · rw [if_pos q]; rfl
  · rw [if_neg q, if_neg (by omega)]; rfl
theorem hasRiver_y {z n : Int} {μ : GM} (hn : μ.2 9 0 = n) (h : 0 ≤ z ∧ z < n) : f_X7_has z μ = some (1, μ) := by
  unfold f_X7_has; rw [if_neg (by omega), if_pos (by omega)]; rfl
theorem hasRiver_n {z n : Int} {μ : GM} (hn : μ.2 9 0 = n) (h : ¬ (0 ≤ z ∧ z < n)) : f_X7_has z μ = some (0, μ) := by
  unfold f_X7_has
  by_cases q : z < 0
  · rw [if_pos q]; rfl
  · rw [if_neg q, if_neg (by omega)]; rfl
theorem hasDrain_y {z n : Int} {μ : GM} (hn : μ.2 14 0 = n) (h : 0 ≤ z ∧ z < n) : f_X1_has z μ = some (1, μ) := by
  unfold f_X1_has; rw [if_neg (by omega), if_pos (by omega)]; rfl
theorem hasDrain_n {z n : Int} {μ : GM} (hn : μ.2 14 0 = n) (h : ¬ (0 ≤ z ∧ z < n)) : f_X1_has z μ = some (0, μ) := by
  unfold f_X1_has
  by_cases q : z < 0
  · rw [if_pos q]; rfl
  · rw [if_neg q, if_neg (by omega)]; rfl
theorem hasWell_y {z n : Int} {μ : GM} (hn : μ.2 18 0 = n) (h : 0 ≤ z ∧ z < n) : f_X9_has z μ = some (1, μ) := by
  unfold f_X9_has; rw [if_neg (by omega), if_pos (by omega)]; rfl
theorem hasWell_n {z n : Int} {μ : GM} (hn : μ.2 18 0 = n) (h : ¬ (0 ≤ z ∧ z < n)) : f_X9_has z μ = some (0, μ) := by
  unfold f_X9_has
  by_cases q : z < 0
  · rw [if_pos q]; rfl
  · rw [if_neg q, if_neg (by omega)]; rfl
theorem in_y {z a b : Int} {μ : GM} (h : a ≤ z ∧ z ≤ b) : f_X12_in z a b μ = some (1, μ) := by
  unfold f_X12_in; rw [if_neg (by omega), if_neg (by omega)]; rfl
theorem in_n {z a b : Int} {μ : GM} (h : ¬ (a ≤ z ∧ z ≤ b)) : f_X12_in z a b μ = some (0, μ) := by
  unfold f_X12_in
  by_cases q : z < a
  · rw [if_pos q]; rfl
  · rw [if_neg q, if_pos (by omega)]; rfl
theorem noCell_y {z n : Int} {μ : GM} (hn : μ.2 53 1 = n) (hb : 0 ≤ n ∧ n ≤ 12) (h : 0 ≤ z ∧ z < n) : f_X12_noCell z μ = some (0, μ) := by
  unfold f_X12_noCell; rw [hn, w32i (by omega) (by omega), in_y (by omega)]; rfl
theorem noCell_n {z n : Int} {μ : GM} (hn : μ.2 53 1 = n) (hb : 0 ≤ n ∧ n ≤ 12) (h : ¬ (0 ≤ z ∧ z < n)) : f_X12_noCell z μ = some (1, μ) := by
  unfold f_X12_noCell; rw [hn, w32i (by omega) (by omega), in_n (by omega)]; rfl
theorem noWell_y {z n : Int} {μ : GM} (hn : μ.2 53 18 = n) (hb : 0 ≤ n ∧ n ≤ 12) (h : 0 ≤ z ∧ z < n) : f_X12_noWell z μ = some (0, μ) := by
  unfold f_X12_noWell; rw [hn, w32i (by omega) (by omega), in_y (by omega)]; rfl
theorem noWell_n {z n : Int} {μ : GM} (hn : μ.2 53 18 = n) (hb : 0 ≤ n ∧ n ≤ 12) (h : ¬ (0 ≤ z ∧ z < n)) : f_X12_noWell z μ = some (1, μ) := by
  unfold f_X12_noWell; rw [hn, w32i (by omega) (by omega), in_n (by omega)]; rfl
theorem out_y {z a b : Int} {μ : GM} (h : a ≤ z ∧ z ≤ b) : f_X11_outside z a b μ = some (0, μ) := by
  unfold f_X11_outside; rw [if_neg (by omega), if_neg (by omega)]; rfl
theorem out_n {z a b : Int} {μ : GM} (h : ¬ (a ≤ z ∧ z ≤ b)) : f_X11_outside z a b μ = some (1, μ) := by
  unfold f_X11_outside
  by_cases q : z < a
  · rw [if_pos q]; rfl
  · rw [if_neg q, if_pos (by omega)]; rfl
def VQ (v : LV) (μ : GM) (val : Int) : Int → GM → Prop := fun r μ1 => r = val ∧ ScOK v μ μ1
theorem cAt {v : LV} {μ : GM} {p e val : Int} (h : InvV v μ) (hp : okp v p) (hr : isR v p) {K : GM → Option (Int × GM)} (hK : ∀ μ4, InvV v μ4 → restAt v 94 μ4 p → Rt (K μ4) (VQ v μ4 val)) :
    Rt (bd (f_X11_atRest μ) (fun x μ4 => if x = 0 then some (e, μ4) else K μ4)) (fun r μ5 => (hasR v → r = val) ∧ (¬ hasR v → r = e) ∧ ScOK v μ μ5) := by
  refine Rt_bd (atRest_spec h) (fun r μ1 ⟨s, ho⟩ => ?_)
  rcases ho with ⟨r1, q, hq⟩ | ⟨r0, hn⟩
  · have e1 : q = p := isR_uniq h.1.2.2.1 hq.2.1 hp hq.2.2.1 hr
    subst e1
    exact Rt_neg (by omega) ((hK μ1 (h.sc s) hq).mono (fun r μ5 k => ⟨fun _ => k.1, fun hn => absurd ⟨hq.1, q, hp, hr⟩ hn, s.trans k.2⟩))
  · exact Rt_pos r0 (Rt_some ⟨fun hh => absurd hh hn, fun _ => rfl, s⟩)
/-- the one side at rest -/
theorem cRest {v : LV} {μ : GM} {e : Int} (h : InvV v μ) (val : Int → Int) {K : GM → Option (Int × GM)} {tot : Int} (htn : ¬ hasR v → tot = e) (hty : ∀ p, nn v 0 ≠ 0 → okp v p → isR v p → tot = val p) (hK : ∀ p, nn v 0 ≠ 0 → okp v p → isR v p → ∀ μ4, InvV v μ4 → restAt v 94 μ4 p → Rt (K μ4) (VQ v μ4 (val p))) :
    Rt (bd (f_X11_atRest μ) (fun x μ4 => if x = 0 then some (e, μ4) else K μ4)) (VQ v μ tot) := by
  refine Rt_bd (atRest_spec h) (fun r μ1 ⟨s, ho⟩ => ?_)
  rcases ho with ⟨r1, q, hq⟩ | ⟨r0, hn⟩
  · exact Rt_neg (by omega) ((hK q hq.1 hq.2.1 hq.2.2.1 μ1 (h.sc s) hq).mono (fun r μ5 k => ⟨k.1.trans (hty q hq.1 hq.2.1 hq.2.2.1).symm, s.trans k.2⟩))
  · exact Rt_pos r0 (Rt_some ⟨(htn hn).symm, s⟩)
/-- the other side at rest -/
theorem mRest {v : LV} {μ : GM} {e : Int} (h : InvV v μ) (val : Int → Int) {K : GM → Option (Int × GM)} {tot : Int} (htn : ¬ hasR v → tot = e) (hty : ∀ p, nn v 0 ≠ 0 → okp v p → isR v p → tot = val p) (hK : ∀ p, nn v 0 ≠ 0 → okp v p → isR v p → ∀ μ4, InvV v μ4 → restM v μ4 p → veq v (mV 72 73 μ4) → Rt (K μ4) (VQ v μ4 (val p))) :
    Rt (bd (f_X12_rests μ) (fun x μ4 => if x = 0 then some (e, μ4) else K μ4)) (VQ v μ tot) := by
  refine Rt_bd (rests_spec h) (fun r μ1 ⟨s0, e72, e73, ho⟩ => ?_)
  have s : ScOK v μ μ1 := (ScOK.refl h).m s0
  have i1 := h.sc s
  have hve : veq v (mV 72 73 μ1) := mV_now i1.1.2.1 h.1.2.2.1 ofr.rfl (fun l hl => by rw [e72 l hl, s0.1 59 (by unfold PM; omega)]) (fun l hl => by rw [e73 l hl, s0.1 70 (by unfold PM; omega)])
  rcases ho with ⟨r1, q, hq⟩ | ⟨r0, hn⟩
  · exact Rt_neg (by omega) ((hK q hq.1 hq.2.1 hq.2.2.1 μ1 i1 hq hve).mono (fun r μ5 k => ⟨k.1.trans (hty q hq.1 hq.2.1 hq.2.2.1).symm, s.trans k.2⟩))
  · exact Rt_pos r0 (Rt_some ⟨(htn hn).symm, s⟩)
/-- the one value of a question about the rest -/
theorem rest_val {v : LV} (hv : wfL v) (e : Int) (val : Int → Int) : ∃ tot, (¬ hasR v → tot = e) ∧ ∀ p, nn v 0 ≠ 0 → okp v p → isR v p → tot = val p := by
  by_cases h : hasR v
  · obtain ⟨h0, p, hp, hr⟩ := h
    exact ⟨val p, fun hn => absurd ⟨h0, p, hp, hr⟩ hn, fun q _ hq hr2 => by rw [isR_uniq hv hp hq hr hr2]⟩
  · exact ⟨e, fun _ => rfl, fun p h0 hp hr => absurd ⟨h0, p, hp, hr⟩ h⟩
def flo (v : LV) (p : Int) (l : Nat) : Int := v.1 5 l * (upv v p (v.1 3 l).toNat - upv v p (v.1 4 l).toNat)
def giv (v : LV) (p : Int) (r : Nat) : Int := v.1 9 r * (v.1 7 r * detv v p - (if bt p r then upv v p (v.1 6 r).toNat else v.1 8 r * detv v p))
def tak (v : LV) (p : Int) (d : Nat) : Int := if bt p (d + 3) then v.1 12 d * (upv v p (v.1 10 d).toNat - v.1 11 d * detv v p) else 0
theorem det_pos {v : LV} (hv : wfL v) {p : Int} (hr : isR v p) : 0 < detv v p ∧ detv v p ≤ 6780000000 := by
  have := det_range hv p; have := hr.1; omega
theorem mul_sm {a b A B : Int} (h1 : 0 ≤ a) (h2 : a ≤ A) (h3 : -B ≤ b) (h4 : b ≤ B) : -(A * B) ≤ a * b ∧ a * b ≤ A * B := abs_mul (by omega) h2 h3 h4
theorem flo_b {v : LV} (hv : wfL v) {p : Int} (hr : isR v p) {l : Nat} (hl : l < nn v 1) : -800000000000000 ≤ flo v p l ∧ flo v p l ≤ 800000000000000 := by
  have h := hv.2.2.2.2.2.2.1 l hl
  have n0 := nn_c hv 0 (by omega)
  have a := up_range hv hr.1 (c := (v.1 3 l).toNat) (by omega)
  have b := up_range hv hr.1 (c := (v.1 4 l).toNat) (by omega)
  have m := mul_sm (a := v.1 5 l) (A := 9) (b := upv v p (v.1 3 l).toNat - upv v p (v.1 4 l).toNat) (B := 85779457200000) (by omega) (by omega) (by omega) (by omega)
  unfold flo
  omega
theorem giv_b {v : LV} (hv : wfL v) {p : Int} (hr : isR v p) {r : Nat} (hl : r < nn v 2) : -500000000000000 ≤ giv v p r ∧ giv v p r ≤ 500000000000000 := by
  have h := hv.2.2.2.2.2.2.2.1 r hl
  have n0 := nn_c hv 0 (by omega)
  have a := up_range hv hr.1 (c := (v.1 6 r).toNat) (by omega)
  have d := det_pos hv hr
  have m1 := mul_sm (a := v.1 7 r) (A := 1000) (b := detv v p) (B := 6780000000) (by omega) (by omega) (by omega) (by omega)
  have m2 := mul_sm (a := v.1 8 r) (A := 1000) (b := detv v p) (B := 6780000000) (by omega) (by omega) (by omega) (by omega)
  have m := mul_sm (a := v.1 9 r) (A := 9) (b := v.1 7 r * detv v p - (if bt p r then upv v p (v.1 6 r).toNat else v.1 8 r * detv v p)) (B := 50000000000000) (by omega) (by omega) (by split <;> omega) (by split <;> omega)
  unfold giv
  omega
theorem tak_b {v : LV} (hv : wfL v) {p : Int} (hr : isR v p) {d : Nat} (hl : d < nn v 3) : -500000000000000 ≤ tak v p d ∧ tak v p d ≤ 500000000000000 := by
  have h := hv.2.2.2.2.2.2.2.2.1 d hl
  have n0 := nn_c hv 0 (by omega)
  have a := up_range hv hr.1 (c := (v.1 10 d).toNat) (by omega)
  have dd := det_pos hv hr
  have m1 := mul_sm (a := v.1 11 d) (A := 1000) (b := detv v p) (B := 6780000000) (by omega) (by omega) (by omega) (by omega)
  have m := mul_sm (a := v.1 12 d) (A := 9) (b := upv v p (v.1 10 d).toNat - v.1 11 d * detv v p) (B := 50000000000000) (by omega) (by omega) (by omega) (by omega)
  unfold tak
  split <;> omega
theorem clink_eq {b : Nat} {v : LV} {μ : GM} {p : Int} (hv : wfL v) (hc : cV b μ = v) (hr : restAt v 94 μ p) {l : Nat} (hl : l < nn v 1) : f_X6_linkTop 94 (l : Int) μ = some (flo v p l, μ) := by
  have h := hv.2.2.2.2.2.2.1 l hl
  have n0 := nn_c hv 0 (by omega)
  have n1 := nn_c hv 1 (by omega)
  have l0 := hv.1
  have l1 := hv.2.1
  have fb := flo_b hv hr.2.2.1 hl
  obtain ⟨x, hx⟩ : ∃ x : Nat, v.1 3 l = x := ⟨(v.1 3 l).toNat, by omega⟩
  obtain ⟨y, hy⟩ : ∃ y : Nat, v.1 4 l = y := ⟨(v.1 4 l).toNat, by omega⟩
  have a := up_range hv hr.2.2.1.1 (c := x) (by omega)
  have b := up_range hv hr.2.2.1.1 (c := y) (by omega)
  unfold f_X6_linkTop
  rw [lcA3 hc, lcA4 hc, lcA5 hc, hx, hy, hr.2.2.2.2.2 x (by omega), hr.2.2.2.2.2 y (by omega)]
  rw [ck_pos (by omega), ck_pos (by omega), ck_pos (by omega), ck_pos (by omega), ck_pos (by omega), w64i (x := upv v p x - upv v p y) (by omega) (by omega)]
  unfold flo at fb ⊢
  rw [hx, hy, Int.toNat_natCast, Int.toNat_natCast] at fb ⊢
  rw [w64i (by omega) (by omega)]
theorem criver_eq {b : Nat} {v : LV} {μ : GM} {p : Int} (hv : wfL v) (hc : cV b μ = v) (hr : restAt v 94 μ p) {r : Nat} (hl : r < nn v 2) : f_X6_riverTop 94 (r : Int) μ = some (giv v p r, μ) := by
  have h := hv.2.2.2.2.2.2.2.1 r hl
  have n0 := nn_c hv 0 (by omega)
  have n2 := nn_c hv 2 (by omega)
  have l0 := hv.1
  have l2 := hv.2.2.1
  have fb := giv_b hv hr.2.2.1 hl
  have d := det_pos hv hr.2.2.1
  obtain ⟨x, hx⟩ : ∃ x : Nat, v.1 6 r = x := ⟨(v.1 6 r).toNat, by omega⟩
  have a := up_range hv hr.2.2.1.1 (c := x) (by omega)
  have m1 := mul_sm (a := v.1 7 r) (A := 1000) (b := detv v p) (B := 6780000000) (by omega) (by omega) (by omega) (by omega)
  have m2 := mul_sm (a := v.1 8 r) (A := 1000) (b := detv v p) (B := 6780000000) (by omega) (by omega) (by omega) (by omega)
  unfold f_X6_riverTop
  rw [hr.2.2.2.2.1]
  unfold giv at fb ⊢
  rw [hx, Int.toNat_natCast] at fb ⊢
  by_cases q : bt p r
  · rw [if_pos q] at fb ⊢
    rw [if_pos q]
    unfold k_X6_riverTop_25 k_X6_riverTop_56
    rw [if_neg (by decide), lcA6 hc, hx, lcA7 hc, lcA9 hc, hr.2.2.2.1, hr.2.2.2.2.2 x (by omega)]
    rw [ck_pos (by omega), ck_pos (by omega), ck_pos (by omega), ck_pos (by omega), w64i (x := v.1 7 r * detv v p) (by omega) (by omega), w64i (x := v.1 7 r * detv v p - upv v p x) (by omega) (by omega), w64i (by omega) (by omega)]
  · rw [if_neg q] at fb ⊢
    rw [if_neg q]
    unfold k_X6_riverTop_25 k_X6_riverTop_56
    rw [if_pos rfl, lcA7 hc, lcA8 hc, lcA9 hc, hr.2.2.2.1]
    rw [ck_pos (by omega), ck_pos (by omega), ck_pos (by omega), w64i (x := v.1 7 r * detv v p) (by omega) (by omega), w64i (x := v.1 8 r * detv v p) (by omega) (by omega), w64i (x := v.1 7 r * detv v p - v.1 8 r * detv v p) (by omega) (by omega), w64i (by omega) (by omega)]
theorem cdrain_eq {b : Nat} {v : LV} {μ : GM} {p : Int} (hv : wfL v) (hc : cV b μ = v) (hr : restAt v 94 μ p) {d : Nat} (hl : d < nn v 3) : f_X6_drainTop 94 (d : Int) μ = some (tak v p d, μ) := by
  have h := hv.2.2.2.2.2.2.2.2.1 d hl
  have n0 := nn_c hv 0 (by omega)
  have n3 := nn_c hv 3 (by omega)
  have l0 := hv.1
  have l3 := hv.2.2.2.1
  have fb := tak_b hv hr.2.2.1 hl
  have dd := det_pos hv hr.2.2.1
  obtain ⟨x, hx⟩ : ∃ x : Nat, v.1 10 d = x := ⟨(v.1 10 d).toNat, by omega⟩
  have a := up_range hv hr.2.2.1.1 (c := x) (by omega)
  have m1 := mul_sm (a := v.1 11 d) (A := 1000) (b := detv v p) (B := 6780000000) (by omega) (by omega) (by omega) (by omega)
  unfold f_X6_drainTop
  rw [hr.2.2.2.2.1, show w32 (3 + (d : Int)) = ((d + 3 : Nat) : Int) by rw [w32i (by omega) (by omega)]; omega]
  unfold tak at fb ⊢
  rw [hx, Int.toNat_natCast] at fb ⊢
  by_cases q : bt p (d + 3)
  · rw [if_pos q] at fb ⊢
    rw [if_pos q]
    unfold k_X6_drainTop_19
    rw [if_neg (by decide), lcA10 hc, hx, lcA11 hc, lcA12 hc, hr.2.2.2.1, hr.2.2.2.2.2 x (by omega)]
    rw [ck_pos (by omega), ck_pos (by omega), ck_pos (by omega), ck_pos (by omega), w64i (x := v.1 11 d * detv v p) (by omega) (by omega), w64i (x := upv v p x - v.1 11 d * detv v p) (by omega) (by omega), w64i (by omega) (by omega)]
  · rw [if_neg q] at fb ⊢
    rw [if_neg q]
    unfold k_X6_drainTop_19
    rw [if_pos rfl]
theorem mlink_eq {v : LV} {μ : GM} {p : Int} (hv : wfL v) (hc : veq v (mV 72 73 μ)) (hr : restM v μ p) {l : Nat} (hl : l < nn v 1) : f_X12_flowOf (l : Int) μ = some (flo v p l, μ) := by
  have h := hv.2.2.2.2.2.2.1 l hl
  have n0 := nn_c hv 0 (by omega)
  have n1 := nn_c hv 1 (by omega)
  have l0 := hv.1
  have l1 := hv.2.1
  have fb := flo_b hv hr.2.2.1 hl
  obtain ⟨x, hx⟩ : ∃ x : Nat, v.1 3 l = x := ⟨(v.1 3 l).toNat, by omega⟩
  obtain ⟨y, hy⟩ : ∃ y : Nat, v.1 4 l = y := ⟨(v.1 4 l).toNat, by omega⟩
  have a := up_range hv hr.2.2.1.1 (c := x) (by omega)
  have b := up_range hv hr.2.2.1.1 (c := y) (by omega)
  have e3 : μ.1 57 = v.1 3 := (hc.1 3 (by omega) (by omega)).symm
  have e4 : μ.1 58 = v.1 4 := (hc.1 4 (by omega) (by omega)).symm
  have e5 : μ.1 72 l = v.1 5 l := (hc.2.2.1 l hl).symm
  unfold f_X12_flowOf
  rw [e3, e4, e5, hx, hy, hr.2.2.2.2.2 x (by omega), hr.2.2.2.2.2 y (by omega)]
  rw [ck_pos (by omega), ck_pos (by omega), ck_pos (by omega), ck_pos (by omega), ck_pos (by omega), w64i (x := upv v p x - upv v p y) (by omega) (by omega)]
  unfold flo at fb ⊢
  rw [hx, hy, Int.toNat_natCast, Int.toNat_natCast] at fb ⊢
  rw [w64i (by omega) (by omega)]
theorem mriver_eq {v : LV} {μ : GM} {p : Int} (hv : wfL v) (hc : veq v (mV 72 73 μ)) (hr : restM v μ p) {r : Nat} (hl : r < nn v 2) : f_X12_givesOf (r : Int) μ = some (giv v p r, μ) := by
  have h := hv.2.2.2.2.2.2.2.1 r hl
  have n0 := nn_c hv 0 (by omega)
  have n2 := nn_c hv 2 (by omega)
  have l0 := hv.1
  have l2 := hv.2.2.1
  have fb := giv_b hv hr.2.2.1 hl
  have d := det_pos hv hr.2.2.1
  obtain ⟨x, hx⟩ : ∃ x : Nat, v.1 6 r = x := ⟨(v.1 6 r).toNat, by omega⟩
  have a := up_range hv hr.2.2.1.1 (c := x) (by omega)
  have m1 := mul_sm (a := v.1 7 r) (A := 1000) (b := detv v p) (B := 6780000000) (by omega) (by omega) (by omega) (by omega)
  have m2 := mul_sm (a := v.1 8 r) (A := 1000) (b := detv v p) (B := 6780000000) (by omega) (by omega) (by omega) (by omega)
  have m3 := mul_sm (a := v.1 9 r) (A := 9) (b := v.1 7 r - v.1 8 r) (B := 1000) (by omega) (by omega) (by omega) (by omega)
  have e6 : μ.1 60 = v.1 6 := (hc.1 6 (by omega) (by omega)).symm
  have e7 : μ.1 61 = v.1 7 := (hc.1 7 (by omega) (by omega)).symm
  have e8 : μ.1 62 = v.1 8 := (hc.1 8 (by omega) (by omega)).symm
  have e9 : μ.1 63 = v.1 9 := (hc.1 9 (by omega) (by omega)).symm
  unfold f_X12_givesOf
  rw [hr.2.2.2.2.1, e6, e7, e8, e9, hx, hr.2.2.2.1, hr.2.2.2.2.2 x (by omega)]
  unfold giv at fb ⊢
  rw [hx, Int.toNat_natCast] at fb ⊢
  by_cases q : bt p r
  · rw [if_pos q] at fb ⊢
    rw [if_pos q]
    rw [ck_pos (by omega), ck_pos (by omega), ck_pos (by omega), ck_pos (by omega), w64i (x := v.1 7 r * detv v p) (by omega) (by omega), w64i (x := v.1 7 r * detv v p - upv v p x) (by omega) (by omega), w64i (by omega) (by omega)]
  · rw [if_neg q] at fb ⊢
    rw [if_neg q]
    have e : v.1 9 r * (v.1 7 r * detv v p - v.1 8 r * detv v p) = v.1 9 r * (v.1 7 r - v.1 8 r) * detv v p := by grind
    rw [e] at fb ⊢
    rw [ck_pos (by omega), ck_pos (by omega), ck_pos (by omega), w32i (x := v.1 7 r - v.1 8 r) (by omega) (by omega), w32i (x := v.1 9 r * (v.1 7 r - v.1 8 r)) (by omega) (by omega), w64i (by omega) (by omega)]
theorem mdrain_eq {v : LV} {μ : GM} {p : Int} (hv : wfL v) (hc : veq v (mV 72 73 μ)) (hr : restM v μ p) {d : Nat} (hl : d < nn v 3) : f_X12_takesOf (d : Int) μ = some (tak v p d, μ) := by
  have h := hv.2.2.2.2.2.2.2.2.1 d hl
  have n0 := nn_c hv 0 (by omega)
  have n3 := nn_c hv 3 (by omega)
  have l0 := hv.1
  have l3 := hv.2.2.2.1
  have fb := tak_b hv hr.2.2.1 hl
  have dd := det_pos hv hr.2.2.1
  obtain ⟨x, hx⟩ : ∃ x : Nat, v.1 10 d = x := ⟨(v.1 10 d).toNat, by omega⟩
  have a := up_range hv hr.2.2.1.1 (c := x) (by omega)
  have m1 := mul_sm (a := v.1 11 d) (A := 1000) (b := detv v p) (B := 6780000000) (by omega) (by omega) (by omega) (by omega)
  have e10 : μ.1 64 = v.1 10 := (hc.1 10 (by omega) (by omega)).symm
  have e11 : μ.1 65 = v.1 11 := (hc.1 11 (by omega) (by omega)).symm
  have e12 : μ.1 66 = v.1 12 := (hc.1 12 (by omega) (by omega)).symm
  unfold f_X12_takesOf
  rw [hr.2.2.2.2.1, show w32 ((d : Int) + 3) = ((d + 3 : Nat) : Int) by rw [w32i (by omega) (by omega)]; omega, e10, e11, e12, hx, hr.2.2.2.1, hr.2.2.2.2.2 x (by omega)]
  unfold tak at fb ⊢
  rw [hx, Int.toNat_natCast] at fb ⊢
  by_cases q : bt p (d + 3)
  · rw [if_pos q] at fb ⊢
    rw [if_pos q]
    rw [ck_pos (by omega), ck_pos (by omega), ck_pos (by omega), ck_pos (by omega), w64i (x := v.1 11 d * detv v p) (by omega) (by omega), w64i (x := upv v p x - v.1 11 d * detv v p) (by omega) (by omega), w64i (by omega) (by omega)]
  · rw [if_neg q] at fb ⊢
    rw [if_neg q]
