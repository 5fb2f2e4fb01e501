/-! the land with other rates -/
def wrt (v : LV) (f : Int → Int) : LV := (fun j => match j with
  | 0 => v.1 0
  | 1 => v.1 1
  | 2 => v.1 2
  | 3 => v.1 3
  | 4 => v.1 4
  | 5 => v.1 5
  | 6 => v.1 6
  | 7 => v.1 7
  | 8 => v.1 8
  | 9 => v.1 9
  | 10 => v.1 10
  | 11 => v.1 11
  | 12 => v.1 12
  | 13 => v.1 13
  | 14 => v.1 14
  | 15 => v.1 15
  | _ => f, v.2)
theorem cV_wrt {v : LV} {μ : GM} (h : cV 22 μ = v) (b : Nat) : cV b μ = wrt v (μ.1 b) := by
  subst h
  refine lv_ext (fun j => ?_) (fun j => rfl)
  rcases j with _ | _ | _ | _ | _ | _ | _ | _ | _ | _ | _ | _ | _ | _ | _ | _ | _ | j <;> rfl
theorem mV_wrt {v : LV} {μ : GM} (h : mV 59 70 μ = v) (b : Nat) : mV 59 b μ = wrt v (μ.1 b) := by
  subst h
  refine lv_ext (fun j => ?_) (fun j => rfl)
  rcases j with _ | _ | _ | _ | _ | _ | _ | _ | _ | _ | _ | _ | _ | _ | _ | _ | _ | j <;> rfl
theorem wf_wrt {v : LV} {f : Int → Int} (hv : wfL v) (hf : ∀ w : Nat, w < nn v 4 → 0 ≤ f w ∧ f w ≤ 99) : wfL (wrt v f) :=
  ⟨hv.1, hv.2.1, hv.2.2.1, hv.2.2.2.1, hv.2.2.2.2.1, hv.2.2.2.2.2.1, hv.2.2.2.2.2.2.1, hv.2.2.2.2.2.2.2.1, hv.2.2.2.2.2.2.2.2.1, fun w hw => ⟨(hv.2.2.2.2.2.2.2.2.2 w hw).1, hf w hw⟩⟩
theorem okp_wrt {v : LV} {f : Int → Int} {p : Int} : okp (wrt v f) p = okp v p := rfl
theorem det_wrt {v : LV} {f : Int → Int} {p : Int} : detv (wrt v f) p = detv v p := rfl
theorem cache_wrt {v : LV} {f : Int → Int} {t : Nat} {μ : GM} : cacheOK (wrt v f) t μ = cacheOK v t μ := rfl
theorem nn_wrt {v : LV} {f : Int → Int} (j : Nat) : nn (wrt v f) j = nn v j := rfl
