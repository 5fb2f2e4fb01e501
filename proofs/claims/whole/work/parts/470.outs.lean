/-! the outlets of a cell, as a table -/
abbrev OT : Type := Nat × (Nat → Int) × (Nat → Int)
def o0 : OT := (0, fun _ => 0, fun _ => 0)
def addO (o : OT) (t f : Int) : OT := if 0 < f then (o.1 + 1, fun i => if i = o.1 then t else o.2.1 i, fun i => if i = o.1 then f else o.2.2 i) else o
def oL (v : LV) (p c : Int) : Nat → OT
  | 0 => o0
  | z + 1 => if v.1 3 z = c then addO (oL v p c z) (v.1 4 z) (flo v p z) else if v.1 4 z = c then addO (oL v p c z) (v.1 3 z) (-flo v p z) else oL v p c z
def oR (v : LV) (p c : Int) : Nat → OT
  | 0 => oL v p c (nn v 1)
  | z + 1 => if v.1 6 z = c then addO (oR v p c z) (100 + z) (-giv v p z) else oR v p c z
def oD (v : LV) (p c : Int) : Nat → OT
  | 0 => oR v p c (nn v 2)
  | z + 1 => if v.1 10 z = c then addO (oD v p c z) (200 + z) (tak v p z) else oD v p c z
def oW (v : LV) (p c : Int) : Nat → OT
  | 0 => oD v p c (nn v 3)
  | z + 1 => if v.1 13 z = c then addO (oW v p c z) (300 + z) (v.1 16 z * detv v p) else oW v p c z
def outs (v : LV) (p c : Int) : OT := oW v p c (nn v 4)
theorem addO_len (o : OT) (t f : Int) : o.1 ≤ (addO o t f).1 ∧ (addO o t f).1 ≤ o.1 + 1 := by unfold addO; split <;> simp
theorem oL_len (v : LV) (p c : Int) : ∀ z, (oL v p c z).1 ≤ z
  | 0 => Nat.le_refl 0
  | z + 1 => by
    have ih := oL_len v p c z
    unfold oL
    have a := (addO_len (oL v p c z) (v.1 4 z) (flo v p z)).2
    have b := (addO_len (oL v p c z) (v.1 3 z) (-flo v p z)).2
    split
    · omega
    · split <;> omega
theorem oR_len (v : LV) (p c : Int) : ∀ z, (oR v p c z).1 ≤ nn v 1 + z
  | 0 => oL_len v p c (nn v 1)
  | z + 1 => by
    have ih := oR_len v p c z
    have a := (addO_len (oR v p c z) (100 + z) (-giv v p z)).2
    unfold oR
    split <;> omega
theorem oD_len (v : LV) (p c : Int) : ∀ z, (oD v p c z).1 ≤ nn v 1 + nn v 2 + z
  | 0 => oR_len v p c (nn v 2)
  | z + 1 => by
    have ih := oD_len v p c z
    have a := (addO_len (oD v p c z) (200 + z) (tak v p z)).2
    unfold oD
    split <;> omega
theorem oW_len (v : LV) (p c : Int) : ∀ z, (oW v p c z).1 ≤ nn v 1 + nn v 2 + nn v 3 + z
  | 0 => oD_len v p c (nn v 3)
  | z + 1 => by
    have ih := oW_len v p c z
    have a := (addO_len (oW v p c z) (300 + z) (v.1 16 z * detv v p)).2
    unfold oW
    split <;> omega
theorem outs_len {v : LV} (hv : wfL v) (p c : Int) : (outs v p c).1 ≤ 20 := by
  have a := oW_len v p c (nn v 4)
  have n1 := nn_c hv 1 (by omega)
  have n2 := nn_c hv 2 (by omega)
  have n3 := nn_c hv 3 (by omega)
  have n4 := nn_c hv 4 (by omega)
  have l1 := hv.2.1
  have l2 := hv.2.2.1
  have l3 := hv.2.2.2.1
  have l4 := hv.2.2.2.2.1
  unfold outs
  omega
/-- what every entry has -/
def oGood (v : LV) (p c : Int) (o : OT) : Prop := ∀ i, i < o.1 → 0 < o.2.2 i ∧ ((0 ≤ o.2.1 i ∧ o.2.1 i < v.2 0 ∧ upv v p (o.2.1 i).toNat < upv v p c.toNat) ∨ 100 ≤ o.2.1 i)
theorem addO_good {v : LV} {p c : Int} {o : OT} (h : oGood v p c o) {t f : Int} (ht : 0 < f → (0 ≤ t ∧ t < v.2 0 ∧ upv v p t.toNat < upv v p c.toNat) ∨ 100 ≤ t) : oGood v p c (addO o t f) := by
  unfold addO
  by_cases q : 0 < f
  · rw [if_pos q]
    intro i hi
    have hi2 : i < o.1 + 1 := hi
    show 0 < (if i = o.1 then f else o.2.2 i) ∧ ((0 ≤ (if i = o.1 then t else o.2.1 i) ∧ (if i = o.1 then t else o.2.1 i) < v.2 0 ∧ upv v p (if i = o.1 then t else o.2.1 i).toNat < upv v p c.toNat) ∨ 100 ≤ (if i = o.1 then t else o.2.1 i))
    by_cases e : i = o.1
    · simp only [if_pos e]; exact ⟨q, ht q⟩
    · simp only [if_neg e]; exact h i (by omega)
  · rw [if_neg q]; exact h
theorem pos_of_mul {a b : Int} (ha : 0 ≤ a) (h : 0 < a * b) : 0 < b := by
  by_cases q : 0 < b
  · exact q
  · have := mul_pn ha (show b ≤ 0 by omega); omega
theorem outs_good {v : LV} (hv : wfL v) (p c : Int) : oGood v p c (outs v p c) := by
  have gL : ∀ z, z ≤ nn v 1 → oGood v p c (oL v p c z) := by
    intro z
    induction z with
    | zero => intro _ i hi; exact absurd hi (by show ¬ i < 0; omega)
    | succ z ih =>
      intro hz
      have g := ih (by omega)
      have h := hv.2.2.2.2.2.2.1 z (by omega)
      unfold oL
      split
      · rename_i e
        refine addO_good g (fun hf => Or.inl ⟨h.2.1.1, h.2.1.2, ?_⟩)
        unfold flo at hf
        have := pos_of_mul (by omega) hf
        rw [← e]; omega
      · split
        · rename_i _ e
          refine addO_good g (fun hf => Or.inl ⟨h.1.1, h.1.2, ?_⟩)
          unfold flo at hf
          have hf2 : 0 < v.1 5 z * (upv v p (v.1 4 z).toNat - upv v p (v.1 3 z).toNat) := by
            have e2 : -(v.1 5 z * (upv v p (v.1 3 z).toNat - upv v p (v.1 4 z).toNat)) = v.1 5 z * (upv v p (v.1 4 z).toNat - upv v p (v.1 3 z).toNat) := by grind
            omega
          have := pos_of_mul (by omega) hf2
          rw [← e]; omega
        · exact g
  have gR : ∀ z, oGood v p c (oR v p c z) := by
    intro z
    induction z with
    | zero => exact gL _ (Nat.le_refl _)
    | succ z ih =>
      unfold oR
      split
      · exact addO_good ih (fun _ => Or.inr (by omega))
      · exact ih
  have gD : ∀ z, oGood v p c (oD v p c z) := by
    intro z
    induction z with
    | zero => exact gR _
    | succ z ih =>
      unfold oD
      split
      · exact addO_good ih (fun _ => Or.inr (by omega))
      · exact ih
  have gW : ∀ z, oGood v p c (oW v p c z) := by
    intro z
    induction z with
    | zero => exact gD _
    | succ z ih =>
      unfold oW
      split
      · exact addO_good ih (fun _ => Or.inr (by omega))
      · exact ih
  exact gW _
def cOut (μ : GM) (o : OT) : Prop := μ.2 23 2 = o.1 ∧ ∀ i : Nat, i < o.1 → μ.1 24 i = o.2.1 i ∧ μ.1 25 i = o.2.2 i
def mOut (μ : GM) (o : OT) : Prop := μ.2 53 31 = o.1 ∧ ∀ i : Nat, i < o.1 → μ.1 77 i = o.2.1 i ∧ μ.1 78 i = o.2.2 i
def PGc : Nat → Prop := fun k => k = 24 ∨ k = 25
def FGc : Nat → Nat → Prop := fun k j => k = 23 ∧ j = 2
def PGm : Nat → Prop := fun k => k = 77 ∨ k = 78
def FGm : Nat → Nat → Prop := fun k j => k = 53 ∧ j = 31
theorem cadd_eq {μ0 μ : GM} {o : OT} (ho : ofr PGc FGc μ0 μ) (h : cOut μ o) (hl : o.1 < 20) (t f : Int) : ∃ μ', f_X8_addOutlet t f μ = some (0, μ') ∧ ofr PGc FGc μ0 μ' ∧ cOut μ' (addO o t f) := by
  unfold f_X8_addOutlet addO
  by_cases q : 0 < f
  · rw [if_pos q, if_pos q]
    unfold lm
    simp only [gA_2, h.1]
    rw [if_pos (by omega), ck_pos (by omega), ck_pos (by omega), w32s (by omega)]
    refine ⟨_, rfl, ((ho.a (Or.inl rfl)).a (Or.inr rfl)).f ⟨rfl, rfl⟩, gF_same _ _ _ _, fun i hi => ?_⟩
    have hi2 : i < o.1 + 1 := hi
    rw [gF_1, gA_nk _ _ _ (show (24 : Nat) ≠ 25 by decide), gA_at, gA_at, gA_nk _ _ _ (show (25 : Nat) ≠ 24 by decide)]
    show _ = (if i = o.1 then t else o.2.1 i) ∧ _ = (if i = o.1 then f else o.2.2 i)
    by_cases e : i = o.1
    · have ei : (i : Int) = (o.1 : Int) := by omega
      rw [if_pos ei, if_pos ei, if_pos e, if_pos e]; exact ⟨rfl, rfl⟩
    · have ei : ¬ (i : Int) = (o.1 : Int) := by omega
      rw [if_neg ei, if_neg ei, if_neg e, if_neg e]; exact h.2 i (by omega)
  · rw [if_neg q, if_neg q]
    exact ⟨μ, rfl, ho, h⟩
theorem madd_eq {μ0 μ : GM} {o : OT} (ho : ofr PGm FGm μ0 μ) (h : mOut μ o) (hl : o.1 < 20) (t f : Int) : ∃ μ', f_X12_let t f μ = some (0, μ') ∧ ofr PGm FGm μ0 μ' ∧ mOut μ' (addO o t f) := by
  unfold f_X12_let addO
  by_cases q : 0 < f
  · rw [if_pos q, if_pos q]
    unfold lm
    simp only [gA_2, h.1]
    rw [ck_pos (by omega), ck_pos (by omega), w32s (by omega)]
    refine ⟨_, rfl, ((ho.a (Or.inl rfl)).a (Or.inr rfl)).f ⟨rfl, rfl⟩, gF_same _ _ _ _, fun i hi => ?_⟩
    have hi2 : i < o.1 + 1 := hi
    rw [gF_1, gA_nk _ _ _ (show (77 : Nat) ≠ 78 by decide), gA_at, gA_at, gA_nk _ _ _ (show (78 : Nat) ≠ 77 by decide)]
    show _ = (if i = o.1 then t else o.2.1 i) ∧ _ = (if i = o.1 then f else o.2.2 i)
    by_cases e : i = o.1
    · have ei : (i : Int) = (o.1 : Int) := by omega
      rw [if_pos ei, if_pos ei, if_pos e, if_pos e]; exact ⟨rfl, rfl⟩
    · have ei : ¬ (i : Int) = (o.1 : Int) := by omega
      rw [if_neg ei, if_neg ei, if_neg e, if_neg e]; exact h.2 i (by omega)
  · rw [if_neg q, if_neg q]
    exact ⟨μ, rfl, ho, h⟩
theorem rest_keepC {v : LV} {μ ν : GM} {p : Int} (h : restAt v 94 μ p) {P : Nat → Prop} {F : Nat → Nat → Prop} (o : ofr P F μ ν) (hP : ¬ P 99) (h7 : ¬ F 94 7) (h8 : ¬ F 94 8) : restAt v 94 ν p := by
  obtain ⟨a, b, c, d, e, f⟩ := h
  exact ⟨a, b, c, (o.2 94 7 h7).trans d, (o.2 94 8 h8).trans e, fun i hi => by rw [o.1 (94 + 5) hP]; exact f i hi⟩
theorem rest_keepM {v : LV} {μ ν : GM} {p : Int} (h : restM v μ p) {P : Nat → Prop} {F : Nat → Nat → Prop} (o : ofr P F μ ν) (hP : ¬ P 71) (h7 : ¬ F 53 24) (h8 : ¬ F 53 25) : restM v ν p := by
  obtain ⟨a, b, c, d, e, f⟩ := h
  exact ⟨a, b, c, (o.2 53 24 h7).trans d, (o.2 53 25 h8).trans e, fun i hi => by rw [o.1 71 hP]; exact f i hi⟩
theorem mV_keepv {e a : Nat} {μ ν : GM} {P : Nat → Prop} {F : Nat → Nat → Prop} (o : ofr P F μ ν) (hP : ∀ k, 54 ≤ k → k < 74 → ¬ P k) (hF : ∀ j, 0 < j → j < 19 → ¬ F 53 j) (he : 54 ≤ e ∧ e < 74) (ha : 54 ≤ a ∧ a < 74) : mV e a ν = mV e a μ := mV_keep o (fun k h1 h2 => hP k h1 (by omega)) hF (hP e he.1 he.2) (hP a ha.1 ha.2)
theorem gather_spec {v : LV} (hv : wfL v) {μ : GM} {p : Int} (hc : cV 22 μ = v) (ra : restAt v 94 μ p) (c : Int) : Rt (f_X8_gather c μ) (fun _ μ' => ofr PGc FGc μ μ' ∧ cOut μ' (outs v p c)) := by
  have n1 := nn_c hv 1 (by omega)
  have n2 := nn_c hv 2 (by omega)
  have n3 := nn_c hv 3 (by omega)
  have n4 := nn_c hv 4 (by omega)
  have l0 := hv.1
  have l1 := hv.2.1
  have l2 := hv.2.2.1
  have l3 := hv.2.2.2.1
  have l4 := hv.2.2.2.2.1
  have kc : ∀ s, ofr PGc FGc μ s → cV 22 s = v := fun s o => (cV_keep o (fun k hk => by unfold PGc; omega) (fun k j hk => by unfold FGc; omega) (by unfold PGc; omega)).trans hc
  have kr : ∀ s, ofr PGc FGc μ s → restAt v 94 s p := fun s o => rest_keepC ra o (by unfold PGc; omega) (by unfold FGc; omega) (by unfold FGc; omega)
  have d := det_pos hv ra.2.2.1
  unfold f_X8_gather
  refine Rt_lm ?_
  refine Rt_loop (fun f z s => k_X8_gather_7 f c z s) _ (nn v 1) (fun z s => ofr PGc FGc μ s ∧ cOut s (oL v p c z)) ?_ ?_ FU 0 _ (by omega) (FU_gt (by omega)) ⟨ofr.rfl.f ⟨rfl, rfl⟩, gF_same _ _ _ _, fun i hi => absurd hi (by show ¬ i < 0; omega)⟩
  · intro f z s hz ⟨ho, hs⟩ hnext
    have c1 := kc s ho
    have h := hv.2.2.2.2.2.2.1 z hz
    have ln := oL_len v p c z
    show Rt (k_X8_gather_7 (f + 1) c (z : Int) s) _
    rw [k_X8_gather_7, lcN1 c1]
    refine Rt_pos (by omega) (Rt_bde (clink_eq hv c1 (kr s ho) hz) (Rt_ck (by omega) ?_))
    rw [lcA3 c1]
    have fb := flo_b hv ra.2.2.1 hz
    by_cases q : v.1 3 z = c
    · obtain ⟨μ', e1, e2, e3⟩ := cadd_eq ho hs (by omega) (v.1 4 z) (flo v p z)
      refine Rt_pos q (Rt_ck (by omega) ?_)
      rw [lcA4 c1]
      refine Rt_bde e1 ?_
      unfold k_X8_gather_63
      rw [lcA4 (kc μ' e2)]
      refine Rt_ck (by omega) (Rt_neg (by omega) (Rt_lt ?_))
      rw [w32s (by omega)]
      refine hnext _ ⟨e2, ?_⟩
      unfold oL
      rw [if_pos q]; exact e3
    · refine Rt_neg q ?_
      unfold k_X8_gather_63
      rw [lcA4 c1]
      refine Rt_ck (by omega) ?_
      by_cases q2 : v.1 4 z = c
      · obtain ⟨μ', e1, e2, e3⟩ := cadd_eq ho hs (by omega) (v.1 3 z) (-flo v p z)
        refine Rt_pos q2 (Rt_ck (by omega) ?_)
        rw [lcA3 c1, w64i (by omega) (by omega)]
        refine Rt_bde e1 (Rt_lt ?_)
        rw [w32s (by omega)]
        refine hnext _ ⟨e2, ?_⟩
        unfold oL
        rw [if_neg q, if_pos q2]; exact e3
      · refine Rt_neg q2 (Rt_lt ?_)
        rw [w32s (by omega)]
        refine hnext _ ⟨ho, ?_⟩
        unfold oL
        rw [if_neg q, if_neg q2]; exact hs
  intro f s ⟨ho, hs⟩
  have c1 := kc s ho
  show Rt (k_X8_gather_7 (f + 1) c (nn v 1 : Int) s) _
  rw [k_X8_gather_7, lcN1 c1]
  refine Rt_neg (by omega) ?_
  refine Rt_loop (fun f z s => k_X8_gather_105 f c z s) _ (nn v 2) (fun z s => ofr PGc FGc μ s ∧ cOut s (oR v p c z)) ?_ ?_ FU 0 s (by omega) (FU_gt (by omega)) ⟨ho, hs⟩
  · intro f z s hz ⟨ho, hs⟩ hnext
    have c1 := kc s ho
    have ln := oR_len v p c z
    show Rt (k_X8_gather_105 (f + 1) c (z : Int) s) _
    rw [k_X8_gather_105, lcN2 c1, lcA6 c1]
    have fb := giv_b hv ra.2.2.1 hz
    refine Rt_pos (by omega) (Rt_ck (by omega) (Rt_if (fun q => ?_) (fun q => Rt_lt ?_)))
    · obtain ⟨μ', e1, e2, e3⟩ := cadd_eq ho hs (by omega) (100 + z) (-giv v p z)
      refine Rt_bde (criver_eq hv c1 (kr s ho) hz) ?_
      rw [w32i (by omega) (by omega), w64i (by omega) (by omega)]
      refine Rt_bde e1 (Rt_lt ?_)
      rw [w32s (by omega)]
      refine hnext _ ⟨e2, ?_⟩
      unfold oR
      rw [if_pos q]; exact e3
    · rw [w32s (by omega)]
      refine hnext _ ⟨ho, ?_⟩
      unfold oR
      rw [if_neg q]; exact hs
  intro f s ⟨ho, hs⟩
  have c1 := kc s ho
  show Rt (k_X8_gather_105 (f + 1) c (nn v 2 : Int) s) _
  rw [k_X8_gather_105, lcN2 c1]
  refine Rt_neg (by omega) ?_
  refine Rt_loop (fun f z s => k_X8_gather_160 f c z s) _ (nn v 3) (fun z s => ofr PGc FGc μ s ∧ cOut s (oD v p c z)) ?_ ?_ FU 0 s (by omega) (FU_gt (by omega)) ⟨ho, hs⟩
  · intro f z s hz ⟨ho, hs⟩ hnext
    have c1 := kc s ho
    have ln := oD_len v p c z
    show Rt (k_X8_gather_160 (f + 1) c (z : Int) s) _
    rw [k_X8_gather_160, lcN3 c1, lcA10 c1]
    refine Rt_pos (by omega) (Rt_ck (by omega) (Rt_if (fun q => ?_) (fun q => Rt_lt ?_)))
    · obtain ⟨μ', e1, e2, e3⟩ := cadd_eq ho hs (by omega) (200 + z) (tak v p z)
      refine Rt_bde (cdrain_eq hv c1 (kr s ho) hz) ?_
      rw [w32i (by omega) (by omega)]
      refine Rt_bde e1 (Rt_lt ?_)
      rw [w32s (by omega)]
      refine hnext _ ⟨e2, ?_⟩
      unfold oD
      rw [if_pos q]; exact e3
    · rw [w32s (by omega)]
      refine hnext _ ⟨ho, ?_⟩
      unfold oD
      rw [if_neg q]; exact hs
  intro f s ⟨ho, hs⟩
  have c1 := kc s ho
  show Rt (k_X8_gather_160 (f + 1) c (nn v 3 : Int) s) _
  rw [k_X8_gather_160, lcN3 c1]
  refine Rt_neg (by omega) ?_
  refine Rt_loop (fun f z s => k_X8_gather_215 f c z s) _ (nn v 4) (fun z s => ofr PGc FGc μ s ∧ cOut s (oW v p c z)) ?_ ?_ FU 0 s (by omega) (FU_gt (by omega)) ⟨ho, hs⟩
  · intro f z s hz ⟨ho, hs⟩ hnext
    have c1 := kc s ho
    have h := hv.2.2.2.2.2.2.2.2.2 z hz
    have ln := oW_len v p c z
    have m := mul_sm (a := v.1 16 z) (A := 99) (b := detv v p) (B := 6780000000) (by omega) (by omega) (by omega) (by omega)
    show Rt (k_X8_gather_215 (f + 1) c (z : Int) s) _
    rw [k_X8_gather_215, lcN4 c1, lcA13 c1, lcA16 c1, (kr s ho).2.2.2.1]
    refine Rt_pos (by omega) (Rt_ck (by omega) (Rt_if (fun q => Rt_ck (by omega) ?_) (fun q => Rt_lt ?_)))
    · obtain ⟨μ', e1, e2, e3⟩ := cadd_eq ho hs (by omega) (300 + z) (v.1 16 z * detv v p)
      rw [w32i (by omega) (by omega), w64i (by omega) (by omega)]
      refine Rt_bde e1 (Rt_lt ?_)
      rw [w32s (by omega)]
      refine hnext _ ⟨e2, ?_⟩
      unfold oW
      rw [if_pos q]; exact e3
    · rw [w32s (by omega)]
      refine hnext _ ⟨ho, ?_⟩
      unfold oW
      rw [if_neg q]; exact hs
  intro f s ⟨ho, hs⟩
  have c1 := kc s ho
  show Rt (k_X8_gather_215 (f + 1) c (nn v 4 : Int) s) _
  rw [k_X8_gather_215, lcN4 c1]
  exact Rt_neg (by omega) (Rt_some ⟨ho, hs⟩)
