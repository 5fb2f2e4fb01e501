/-! permits: what a letter and a digit name -/
theorem bdS_eq {r : Int} {s : GM} {k : Int → GM → Option (Int × GM)} : bd (some (r, s)) k = k r s := rfl
def vlu (v : LV) (p l z : Int) : Int :=
  if l = 100 then mil (tak v p z.toNat) (detv v p) else if l = 103 then mil (giv v p z.toNat) (detv v p) else if l = 104 then mil (upv v p z.toNat) (detv v p) else if l = 113 then v.1 16 z else mil (flo v p z.toNat) (detv v p)
theorem cval {b : Nat} {v : LV} {s : GM} {p : Int} (hv : wfL v) (hc : cV b s = v) (ra : restAt v 94 s p) {l z : Int} (h6 : s.2 42 6 = l) (hz : 0 ≤ z ∧ z < cnt v l) : f_X4_valueOf b z s = some (vlu v p l z, s) := by
  have n0 := nn_c hv 0 (by omega)
  have n1 := nn_c hv 1 (by omega)
  have n2 := nn_c hv 2 (by omega)
  have n3 := nn_c hv 3 (by omega)
  have w4 := hv.2.2.2.2.1
  have l0 := hv.1
  have d := det_pos hv ra.2.2.1
  have ez : ((z.toNat : Nat) : Int) = z := by omega
  unfold f_X4_valueOf vlu
  unfold cnt at hz
  rw [h6]
  by_cases q1 : l = 100
  · rw [if_pos q1] at hz
    rw [if_pos q1, if_pos q1]
    have e := cdrain_eq hv hc ra (d := z.toNat) (by omega)
    have fb := tak_b hv ra.2.2.1 (d := z.toNat) (by omega)
    rw [ez] at e
    rw [e]
    rw [bdS_eq, ra.2.2.2.1, cmil_eq (by omega) (by omega) d.1 (by omega)]; rfl
  rw [if_neg q1] at hz
  rw [if_neg q1, if_neg q1]
  by_cases q2 : l = 103
  · rw [if_pos q2] at hz
    rw [if_pos q2, if_pos q2]
    have e := criver_eq hv hc ra (r := z.toNat) (by omega)
    have fb := giv_b hv ra.2.2.1 (r := z.toNat) (by omega)
    rw [ez] at e
    rw [e]
    rw [bdS_eq, ra.2.2.2.1, cmil_eq (by omega) (by omega) d.1 (by omega)]; rfl
  rw [if_neg q2] at hz
  rw [if_neg q2, if_neg q2]
  by_cases q3 : l = 104
  · rw [if_pos q3] at hz
    rw [if_pos q3, if_pos q3]
    have a := up_range hv ra.2.2.1.1 (c := z.toNat) (by omega)
    have e := ra.2.2.2.2.2 z.toNat (by omega)
    rw [ez] at e
    rw [ck_pos (by omega), show s.1 99 z = upv v p z.toNat from e, ra.2.2.2.1, cmil_eq (by omega) (by omega) d.1 (by omega)]; rfl
  rw [if_neg q3] at hz
  rw [if_neg q3, if_neg q3]
  by_cases q4 : l = 113
  · rw [if_pos q4] at hz
    rw [if_pos q4, if_pos q4, ck_pos (by omega), lcA16 hc]
  rw [if_neg q4] at hz
  rw [if_neg q4, if_neg q4]
  have e := clink_eq hv hc ra (l := z.toNat) (by omega)
  have fb := flo_b hv ra.2.2.1 (l := z.toNat) (by omega)
  rw [ez] at e
  rw [e]
  rw [bdS_eq, ra.2.2.2.1, cmil_eq (by omega) (by omega) d.1 (by omega)]; rfl
theorem mval {v : LV} {s : GM} {p : Int} (hv : wfL v) (hm : veq v (mV 72 73 s)) (ra : restM v s p) {l z : Int} (hz : 0 ≤ z ∧ z < cnt v l) : f_X12_asked l z s = some (vlu v p l z, s) := by
  have n0 := nn_c hv 0 (by omega)
  have n1 := nn_c hv 1 (by omega)
  have n2 := nn_c hv 2 (by omega)
  have n3 := nn_c hv 3 (by omega)
  have n4 := nn_c hv 4 (by omega)
  have w4 := hv.2.2.2.2.1
  have l0 := hv.1
  have d := det_pos hv ra.2.2.1
  have ez : ((z.toNat : Nat) : Int) = z := by omega
  unfold f_X12_asked vlu
  unfold cnt at hz
  by_cases q1 : l = 100
  · rw [if_pos q1] at hz
    rw [if_pos q1, if_pos q1]
    have e := mdrain_eq hv hm ra (d := z.toNat) (by omega)
    have fb := tak_b hv ra.2.2.1 (d := z.toNat) (by omega)
    rw [ez] at e
    rw [e]
    rw [bdS_eq, mmil_eq (by omega) (by omega) d.1 (by omega) ra.2.2.2.1]; rfl
  rw [if_neg q1] at hz
  rw [if_neg q1, if_neg q1]
  by_cases q2 : l = 103
  · rw [if_pos q2] at hz
    rw [if_pos q2, if_pos q2]
    have e := mriver_eq hv hm ra (r := z.toNat) (by omega)
    have fb := giv_b hv ra.2.2.1 (r := z.toNat) (by omega)
    rw [ez] at e
    rw [e]
    rw [bdS_eq, mmil_eq (by omega) (by omega) d.1 (by omega) ra.2.2.2.1]; rfl
  rw [if_neg q2] at hz
  rw [if_neg q2, if_neg q2]
  by_cases q3 : l = 104
  · rw [if_pos q3] at hz
    rw [if_pos q3, if_pos q3]
    have a := up_range hv ra.2.2.1.1 (c := z.toNat) (by omega)
    have e := ra.2.2.2.2.2 z.toNat (by omega)
    rw [ez] at e
    rw [ck_pos (by omega), e, mmil_eq (by omega) (by omega) d.1 (by omega) ra.2.2.2.1]; rfl
  rw [if_neg q3] at hz
  rw [if_neg q3, if_neg q3]
  by_cases q4 : l = 113
  · rw [if_pos q4] at hz
    have e := hm.2.2.2 z.toNat (by omega)
    rw [ez] at e
    rw [if_pos q4, if_pos q4, ck_pos (by omega), e]; rfl
  rw [if_neg q4] at hz
  rw [if_neg q4, if_neg q4]
  have e := mlink_eq hv hm ra (l := z.toNat) (by omega)
  have fb := flo_b hv ra.2.2.1 (l := z.toNat) (by omega)
  rw [ez] at e
  rw [e]
  rw [bdS_eq, mmil_eq (by omega) (by omega) d.1 (by omega) ra.2.2.2.1]; rfl
