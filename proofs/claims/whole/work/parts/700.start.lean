/-! where the law begins -/
theorem start_inv : InvV (cV 22 gMem0) gMem0 := by
  have n0 : ∀ j, (cV 22 gMem0).2 j = 0 := by
    intro j
    rcases j with _ | _ | _ | _ | _ | j <;> rfl
  have nz : ∀ j, nn (cV 22 gMem0) j = 0 := by
    intro j; unfold nn; rw [n0 j]; rfl
  refine ⟨⟨rfl, ?_, ?_, ?_⟩, ⟨rfl, ?_, ?_⟩, ⟨rfl, ?_⟩, ?_, ?_, ?_, ?_, ?_⟩
  · refine lv_ext (fun j => ?_) (fun j => ?_)
    · rcases j with _ | _ | _ | _ | _ | _ | _ | _ | _ | _ | _ | _ | _ | _ | _ | _ | _ | _ | j <;> rfl
    · rcases j with _ | _ | _ | _ | _ | j <;> rfl
  · unfold wfL
    rw [nz 0, nz 1, nz 2, nz 3, nz 4, n0 0, n0 1, n0 2, n0 3, n0 4]
    exact ⟨by omega, by omega, by omega, by omega, by omega, fun c hc => absurd hc (Nat.not_lt_zero _), fun c hc => absurd hc (Nat.not_lt_zero _), fun c hc => absurd hc (Nat.not_lt_zero _), fun c hc => absurd hc (Nat.not_lt_zero _), fun c hc => absurd hc (Nat.not_lt_zero _)⟩
  · unfold wfX
    rw [nz 0, nz 4]
    exact ⟨fun c hc => by omega, fun c hc => by omega, fun c hc => rfl⟩
  · intro z hz hne
    exact absurd rfl hne
  · unfold okp
    rw [n0 2, n0 3]
    decide +kernel
  · unfold okp
    rw [n0 2, n0 3]
    decide +kernel
  · exact ⟨rfl, rfl, fun c => show (0 : Int) ≤ 0 ∧ (0 : Int) ≤ 1000000 by decide, fun c => show r64 0 by unfold r64; decide⟩
  · exact ⟨rfl, by decide, rfl, rfl, fun w hw => by have : gMem0.2 31 2 = 0 := rfl; omega⟩
  · exact ⟨rfl, fun c => ⟨show (-9000000 : Int) ≤ 0 ∧ (0 : Int) ≤ 9000000 by decide, Or.inr ⟨rfl, rfl⟩⟩⟩
  · exact ⟨rfl, by decide, rfl, fun w hw => by have : gMem0.2 42 2 = 0 := rfl; omega⟩
  · exact ⟨rfl, fun c => Or.inl rfl⟩
