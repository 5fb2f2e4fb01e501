/-! the land of the one side and of the other -/
def cV (a : Nat) (μ : GM) : LV := (fun j => match j with
  | 0 => μ.1 2
  | 1 => μ.1 3
  | 2 => μ.1 4
  | 3 => μ.1 6
  | 4 => μ.1 7
  | 5 => μ.1 8
  | 6 => μ.1 10
  | 7 => μ.1 11
  | 8 => μ.1 12
  | 9 => μ.1 13
  | 10 => μ.1 15
  | 11 => μ.1 16
  | 12 => μ.1 17
  | 13 => μ.1 19
  | 14 => μ.1 20
  | 15 => μ.1 21
  | _ => μ.1 a, fun j => match j with
  | 0 => μ.2 1 0
  | 1 => μ.2 5 0
  | 2 => μ.2 9 0
  | 3 => μ.2 14 0
  | _ => μ.2 18 0)
def mV (e a : Nat) (μ : GM) : LV := (fun j => match j with
  | 0 => μ.1 54
  | 1 => μ.1 55
  | 2 => μ.1 56
  | 3 => μ.1 57
  | 4 => μ.1 58
  | 5 => μ.1 e
  | 6 => μ.1 60
  | 7 => μ.1 61
  | 8 => μ.1 62
  | 9 => μ.1 63
  | 10 => μ.1 64
  | 11 => μ.1 65
  | 12 => μ.1 66
  | 13 => μ.1 67
  | 14 => μ.1 68
  | 15 => μ.1 69
  | _ => μ.1 a, fun j => match j with
  | 0 => μ.2 53 1
  | 1 => μ.2 53 5
  | 2 => μ.2 53 9
  | 3 => μ.2 53 14
  | _ => μ.2 53 18)
theorem lcA0 {a : Nat} {μ : GM} {v : LV} (h : cV a μ = v) : μ.1 2 = v.1 0 := by subst h; rfl
theorem lcA1 {a : Nat} {μ : GM} {v : LV} (h : cV a μ = v) : μ.1 3 = v.1 1 := by subst h; rfl
theorem lcA2 {a : Nat} {μ : GM} {v : LV} (h : cV a μ = v) : μ.1 4 = v.1 2 := by subst h; rfl
theorem lcA3 {a : Nat} {μ : GM} {v : LV} (h : cV a μ = v) : μ.1 6 = v.1 3 := by subst h; rfl
theorem lcA4 {a : Nat} {μ : GM} {v : LV} (h : cV a μ = v) : μ.1 7 = v.1 4 := by subst h; rfl
theorem lcA5 {a : Nat} {μ : GM} {v : LV} (h : cV a μ = v) : μ.1 8 = v.1 5 := by subst h; rfl
theorem lcA6 {a : Nat} {μ : GM} {v : LV} (h : cV a μ = v) : μ.1 10 = v.1 6 := by subst h; rfl
theorem lcA7 {a : Nat} {μ : GM} {v : LV} (h : cV a μ = v) : μ.1 11 = v.1 7 := by subst h; rfl
theorem lcA8 {a : Nat} {μ : GM} {v : LV} (h : cV a μ = v) : μ.1 12 = v.1 8 := by subst h; rfl
theorem lcA9 {a : Nat} {μ : GM} {v : LV} (h : cV a μ = v) : μ.1 13 = v.1 9 := by subst h; rfl
theorem lcA10 {a : Nat} {μ : GM} {v : LV} (h : cV a μ = v) : μ.1 15 = v.1 10 := by subst h; rfl
theorem lcA11 {a : Nat} {μ : GM} {v : LV} (h : cV a μ = v) : μ.1 16 = v.1 11 := by subst h; rfl
theorem lcA12 {a : Nat} {μ : GM} {v : LV} (h : cV a μ = v) : μ.1 17 = v.1 12 := by subst h; rfl
theorem lcA13 {a : Nat} {μ : GM} {v : LV} (h : cV a μ = v) : μ.1 19 = v.1 13 := by subst h; rfl
theorem lcA14 {a : Nat} {μ : GM} {v : LV} (h : cV a μ = v) : μ.1 20 = v.1 14 := by subst h; rfl
theorem lcA15 {a : Nat} {μ : GM} {v : LV} (h : cV a μ = v) : μ.1 21 = v.1 15 := by subst h; rfl
theorem lcA16 {a : Nat} {μ : GM} {v : LV} (h : cV a μ = v) : μ.1 a = v.1 16 := by subst h; rfl
theorem lcN0 {a : Nat} {μ : GM} {v : LV} (h : cV a μ = v) : μ.2 1 0 = v.2 0 := by subst h; rfl
theorem lcN1 {a : Nat} {μ : GM} {v : LV} (h : cV a μ = v) : μ.2 5 0 = v.2 1 := by subst h; rfl
theorem lcN2 {a : Nat} {μ : GM} {v : LV} (h : cV a μ = v) : μ.2 9 0 = v.2 2 := by subst h; rfl
theorem lcN3 {a : Nat} {μ : GM} {v : LV} (h : cV a μ = v) : μ.2 14 0 = v.2 3 := by subst h; rfl
theorem lcN4 {a : Nat} {μ : GM} {v : LV} (h : cV a μ = v) : μ.2 18 0 = v.2 4 := by subst h; rfl
theorem lmA0 {e a : Nat} {μ : GM} {v : LV} (h : mV e a μ = v) : μ.1 54 = v.1 0 := by subst h; rfl
theorem lmA1 {e a : Nat} {μ : GM} {v : LV} (h : mV e a μ = v) : μ.1 55 = v.1 1 := by subst h; rfl
theorem lmA2 {e a : Nat} {μ : GM} {v : LV} (h : mV e a μ = v) : μ.1 56 = v.1 2 := by subst h; rfl
theorem lmA3 {e a : Nat} {μ : GM} {v : LV} (h : mV e a μ = v) : μ.1 57 = v.1 3 := by subst h; rfl
theorem lmA4 {e a : Nat} {μ : GM} {v : LV} (h : mV e a μ = v) : μ.1 58 = v.1 4 := by subst h; rfl
theorem lmA5 {e a : Nat} {μ : GM} {v : LV} (h : mV e a μ = v) : μ.1 e = v.1 5 := by subst h; rfl
theorem lmA6 {e a : Nat} {μ : GM} {v : LV} (h : mV e a μ = v) : μ.1 60 = v.1 6 := by subst h; rfl
theorem lmA7 {e a : Nat} {μ : GM} {v : LV} (h : mV e a μ = v) : μ.1 61 = v.1 7 := by subst h; rfl
theorem lmA8 {e a : Nat} {μ : GM} {v : LV} (h : mV e a μ = v) : μ.1 62 = v.1 8 := by subst h; rfl
theorem lmA9 {e a : Nat} {μ : GM} {v : LV} (h : mV e a μ = v) : μ.1 63 = v.1 9 := by subst h; rfl
theorem lmA10 {e a : Nat} {μ : GM} {v : LV} (h : mV e a μ = v) : μ.1 64 = v.1 10 := by subst h; rfl
theorem lmA11 {e a : Nat} {μ : GM} {v : LV} (h : mV e a μ = v) : μ.1 65 = v.1 11 := by subst h; rfl
theorem lmA12 {e a : Nat} {μ : GM} {v : LV} (h : mV e a μ = v) : μ.1 66 = v.1 12 := by subst h; rfl
theorem lmA13 {e a : Nat} {μ : GM} {v : LV} (h : mV e a μ = v) : μ.1 67 = v.1 13 := by subst h; rfl
theorem lmA14 {e a : Nat} {μ : GM} {v : LV} (h : mV e a μ = v) : μ.1 68 = v.1 14 := by subst h; rfl
theorem lmA15 {e a : Nat} {μ : GM} {v : LV} (h : mV e a μ = v) : μ.1 69 = v.1 15 := by subst h; rfl
theorem lmA16 {e a : Nat} {μ : GM} {v : LV} (h : mV e a μ = v) : μ.1 a = v.1 16 := by subst h; rfl
theorem lmN0 {e a : Nat} {μ : GM} {v : LV} (h : mV e a μ = v) : μ.2 53 1 = v.2 0 := by subst h; rfl
theorem lmN1 {e a : Nat} {μ : GM} {v : LV} (h : mV e a μ = v) : μ.2 53 5 = v.2 1 := by subst h; rfl
theorem lmN2 {e a : Nat} {μ : GM} {v : LV} (h : mV e a μ = v) : μ.2 53 9 = v.2 2 := by subst h; rfl
theorem lmN3 {e a : Nat} {μ : GM} {v : LV} (h : mV e a μ = v) : μ.2 53 14 = v.2 3 := by subst h; rfl
theorem lmN4 {e a : Nat} {μ : GM} {v : LV} (h : mV e a μ = v) : μ.2 53 18 = v.2 4 := by subst h; rfl
theorem lv_ext {v w : LV} (h0 : ∀ j, v.1 j = w.1 j) (h1 : ∀ j, v.2 j = w.2 j) : v = w := Prod.ext (funext h0) (funext h1)
theorem cV_keep {P : Nat → Prop} {F : Nat → Nat → Prop} {a : Nat} {μ ν : GM} (h : ofr P F μ ν) (hP : ∀ k, k < 23 → ¬ P k) (hF : ∀ k j, k < 23 → ¬ F k j) (ha : ¬ P a) : cV a ν = cV a μ := by
  refine lv_ext (fun j => ?_) (fun j => ?_)
  · unfold cV
    match j with
    | 0 => exact h.1 2 (hP _ (by omega))
    | 1 => exact h.1 3 (hP _ (by omega))
    | 2 => exact h.1 4 (hP _ (by omega))
    | 3 => exact h.1 6 (hP _ (by omega))
    | 4 => exact h.1 7 (hP _ (by omega))
    | 5 => exact h.1 8 (hP _ (by omega))
    | 6 => exact h.1 10 (hP _ (by omega))
    | 7 => exact h.1 11 (hP _ (by omega))
    | 8 => exact h.1 12 (hP _ (by omega))
    | 9 => exact h.1 13 (hP _ (by omega))
    | 10 => exact h.1 15 (hP _ (by omega))
    | 11 => exact h.1 16 (hP _ (by omega))
    | 12 => exact h.1 17 (hP _ (by omega))
    | 13 => exact h.1 19 (hP _ (by omega))
    | 14 => exact h.1 20 (hP _ (by omega))
    | 15 => exact h.1 21 (hP _ (by omega))
    | j + 16 => exact h.1 a ha
  · unfold cV
    match j with
    | 0 => exact h.2 1 0 (hF _ _ (by omega))
    | 1 => exact h.2 5 0 (hF _ _ (by omega))
    | 2 => exact h.2 9 0 (hF _ _ (by omega))
    | 3 => exact h.2 14 0 (hF _ _ (by omega))
    | j + 4 => exact h.2 18 0 (hF _ _ (by omega))
theorem mV_keep {P : Nat → Prop} {F : Nat → Nat → Prop} {e a : Nat} {μ ν : GM} (h : ofr P F μ ν) (hP : ∀ k, 54 ≤ k → k < 70 → ¬ P k) (hF : ∀ j, 0 < j → j < 19 → ¬ F 53 j) (he : ¬ P e) (ha : ¬ P a) : mV e a ν = mV e a μ := by
  refine lv_ext (fun j => ?_) (fun j => ?_)
  · unfold mV
    match j with
    | 0 => exact h.1 54 (hP _ (by omega) (by omega))
    | 1 => exact h.1 55 (hP _ (by omega) (by omega))
    | 2 => exact h.1 56 (hP _ (by omega) (by omega))
    | 3 => exact h.1 57 (hP _ (by omega) (by omega))
    | 4 => exact h.1 58 (hP _ (by omega) (by omega))
    | 5 => exact h.1 e he
    | 6 => exact h.1 60 (hP _ (by omega) (by omega))
    | 7 => exact h.1 61 (hP _ (by omega) (by omega))
    | 8 => exact h.1 62 (hP _ (by omega) (by omega))
    | 9 => exact h.1 63 (hP _ (by omega) (by omega))
    | 10 => exact h.1 64 (hP _ (by omega) (by omega))
    | 11 => exact h.1 65 (hP _ (by omega) (by omega))
    | 12 => exact h.1 66 (hP _ (by omega) (by omega))
    | 13 => exact h.1 67 (hP _ (by omega) (by omega))
    | 14 => exact h.1 68 (hP _ (by omega) (by omega))
    | 15 => exact h.1 69 (hP _ (by omega) (by omega))
    | j + 16 => exact h.1 a ha
  · unfold mV
    match j with
    | 0 => exact h.2 53 1 (hF _ (by omega) (by omega))
    | 1 => exact h.2 53 5 (hF _ (by omega) (by omega))
    | 2 => exact h.2 53 9 (hF _ (by omega) (by omega))
    | 3 => exact h.2 53 14 (hF _ (by omega) (by omega))
    | j + 4 => exact h.2 53 18 (hF _ (by omega) (by omega))
/-- a link laid into a matrix -/
theorem link4 {s : GM} {a : Nat} {x y : Nat} {e : Int} (hx : x < 6) (hy : y < 6) (hne : x ≠ y) (he0 : 0 ≤ e) (he : e ≤ 9) (hb : ∀ i j, i < 6 → j < 6 → -300 ≤ s.1 a (ix i j) ∧ s.1 a (ix i j) ≤ 300)
    {μ3 μ4 μ5 μ6 : GM} (h3 : μ3 = gA s a (ix x x) (w64 (s.1 a (ix x x) + e))) (h4 : μ4 = gA μ3 a (ix y y) (w64 (μ3.1 a (ix y y) + e))) (h5 : μ5 = gA μ4 a (ix x y) (w64 (μ4.1 a (ix x y) - e))) (h6 : μ6 = gA μ5 a (ix y x) (w64 (μ5.1 a (ix y x) - e))) :
    ∀ i j, i < 6 → j < 6 → μ6.1 a (ix i j) = s.1 a (ix i j) + e * ((uv x i - uv y i) * (uv x j - uv y j)) := by
  have b1 := hb x x hx hx
  have b2 := hb y y hy hy
  have b3 := hb x y hx hy
  have b4 := hb y x hy hx
  have n1 : ix y y ≠ ix x x := fun z => hne (ix_inj hy hx z).1.symm
  have n2 : ix x y ≠ ix x x := fun z => hne (ix_inj hy hx z).2.symm
  have n3 : ix x y ≠ ix y y := fun z => hne (ix_inj hy hy z).1
  have n4 : ix y x ≠ ix x x := fun z => hne (ix_inj hx hx z).1.symm
  have n5 : ix y x ≠ ix y y := fun z => hne (ix_inj hx hy z).2
  have n6 : ix y x ≠ ix x y := fun z => hne (ix_inj hx hy z).1.symm
  rw [w64i (by omega) (by omega)] at h3
  have e4 : μ3.1 a (ix y y) = s.1 a (ix y y) := by rw [h3, gA_ni _ _ _ n1]
  rw [e4, w64i (by omega) (by omega)] at h4
  have e5 : μ4.1 a (ix x y) = s.1 a (ix x y) := by rw [h4, gA_ni _ _ _ n3, h3, gA_ni _ _ _ n2]
  rw [e5, w64i (by omega) (by omega)] at h5
  have e6 : μ5.1 a (ix y x) = s.1 a (ix y x) := by rw [h5, gA_ni _ _ _ n6, h4, gA_ni _ _ _ n5, h3, gA_ni _ _ _ n4]
  rw [e6, w64i (by omega) (by omega)] at h6
  intro i j hi hj
  rw [h6, gA_at, h5, gA_at, h4, gA_at, h3, gA_at]
  have key : ∀ p q, (ix i j = ix p q) = (i = p ∧ j = q) ∨ ¬ q < 6 := fun p q => by
    by_cases hq : q < 6
    · exact Or.inl (propext ⟨fun z => ix_inj hj hq z, fun z => by rw [z.1, z.2]⟩)
    · exact Or.inr hq
  have k1 := (key x x).resolve_right (by omega)
  have k2 := (key y y).resolve_right (by omega)
  have k3 := (key x y).resolve_right (by omega)
  have k4 := (key y x).resolve_right (by omega)
  simp only [k1, k2, k3, k4]
  unfold uv
  by_cases q1 : i = x
  · by_cases q2 : j = x
    · subst q1; subst q2
      rw [if_neg (by omega), if_neg (by omega), if_neg (by omega), if_pos ⟨rfl, rfl⟩, if_pos rfl, if_neg (by omega)]; omega
    · by_cases q3 : j = y
      · subst q1; subst q3
        rw [if_neg (by omega), if_pos ⟨rfl, rfl⟩, if_pos rfl, if_neg (by omega), if_neg (by omega), if_pos rfl]; omega
      · subst q1
        rw [if_neg (by omega), if_neg (by omega), if_neg (by omega), if_neg (by omega), if_neg (show ¬ i = j by omega), if_neg (show ¬ y = j by omega)]; omega
  · by_cases q2 : i = y
    · by_cases q3 : j = x
      · subst q2; subst q3
        rw [if_pos ⟨rfl, rfl⟩, if_neg (by omega), if_pos rfl, if_pos rfl, if_neg (by omega)]; omega
      · by_cases q4 : j = y
        · subst q2; subst q4
          rw [if_neg (by omega), if_neg (by omega), if_pos ⟨rfl, rfl⟩, if_neg (by omega), if_pos rfl]; omega
        · subst q2
          rw [if_neg (by omega), if_neg (by omega), if_neg (by omega), if_neg (by omega), if_neg (show ¬ x = j by omega), if_neg (show ¬ i = j by omega)]; omega
    · rw [if_neg (by omega), if_neg (by omega), if_neg (by omega), if_neg (by omega), if_neg (show ¬ x = i by omega), if_neg (show ¬ y = i by omega)]; omega
theorem nb_uv (x i : Nat) : nb (x : Int) i = uv x i := by
  unfold nb uv
  by_cases q : x = i
  · rw [if_pos (by omega), if_pos q]
  · rw [if_neg (by omega), if_neg q]
theorem lapn_b {v : LV} (hv : wfL v) : ∀ z, z ≤ nn v 1 → ∀ i j, -(9 * (z : Int)) ≤ lapn v z i j ∧ lapn v z i j ≤ 9 * (z : Int)
  | 0, _, i, j => ⟨by show _ ≤ (0 : Int); omega, by show (0 : Int) ≤ _; omega⟩
  | z + 1, hz, i, j => by
    have ih := lapn_b hv z (by omega) i j
    have h := hv.2.2.2.2.2.2.1 z (by omega)
    have e : lapn v (z + 1) i j = lapn v z i j + v.1 5 z * (xl v z i * xl v z j) := rfl
    have b : -1 ≤ xl v z i * xl v z j ∧ xl v z i * xl v z j ≤ 1 := by
      unfold xl nb
      have h3 := h.2.2.1
      split <;> split <;> split <;> split <;> omega
    have c1 := Int.mul_le_mul_of_nonneg_left b.1 (show 0 ≤ v.1 5 z by omega)
    have c2 := Int.mul_le_mul_of_nonneg_left b.2 (show 0 ≤ v.1 5 z by omega)
    rw [e]
    constructor <;> omega
theorem fillL_spec {a : Nat} {N : Nat} (hN : gLen a = N) (hN2 : N < 1000) (x : Int) (μ0 : GM) : Rt (f_J7_fill_d0a16 a x μ0) (fun _ μ => ofr (fun k => k = a) nF μ0 μ ∧ ∀ i : Nat, i < N → μ.1 a i = x) := by
  unfold f_J7_fill_d0a16
  refine Rt_lt ?_
  rw [hN]
  refine Rt_loop (fun f z s => k_J7_fill_d0a16_6 a f x z (N : Int) s) _ N (fun z s => ofr (fun k => k = a) nF μ0 s ∧ ∀ i : Nat, i < z → s.1 a i = x) ?_ ?_ FU 0 μ0 (by omega) (FU_gt (by omega)) ⟨ofr.rfl, fun i h => by omega⟩
  · intro f z s hz ⟨hs, hv⟩ hnext
    show Rt (k_J7_fill_d0a16_6 a (f + 1) x (z : Int) (N : Int) s) _
    rw [k_J7_fill_d0a16_6]
    refine Rt_pos (by omega) (Rt_ck (by rw [hN]; omega) (Rt_lm (Rt_lt ?_)))
    rw [w32s (by omega)]
    refine hnext _ ⟨hs.a (Eq.refl a), fun i hi => ?_⟩
    rw [gA_at]
    by_cases e : (i : Int) = (z : Int)
    · rw [if_pos e]
    · rw [if_neg e]; exact hv i (by omega)
  · intro f s ⟨hs, hv⟩
    show Rt (k_J7_fill_d0a16_6 a (f + 1) x (N : Int) (N : Int) s) _
    rw [k_J7_fill_d0a16_6]
    exact Rt_neg (by omega) (Rt_some ⟨hs, hv⟩)
theorem fillI_spec {a : Nat} {N : Nat} (hN : gLen a = N) (hN2 : N < 1000) (x : Int) (μ0 : GM) : Rt (f_J7_fill_53178 a x μ0) (fun _ μ => ofr (fun k => k = a) nF μ0 μ ∧ (∀ i : Nat, i < N → μ.1 a i = x) ∧ ∀ i : Int, (i < 0 ∨ N ≤ i) → μ.1 a i = μ0.1 a i) := by
  unfold f_J7_fill_53178
  refine Rt_lt ?_
  rw [hN]
  refine Rt_loop (fun f z s => k_J7_fill_53178_5 a f x z (N : Int) s) _ N (fun z s => ofr (fun k => k = a) nF μ0 s ∧ (∀ i : Nat, i < z → s.1 a i = x) ∧ ∀ i : Int, (i < 0 ∨ N ≤ i) → s.1 a i = μ0.1 a i) ?_ ?_ FU 0 μ0 (by omega) (FU_gt (by omega)) ⟨ofr.rfl, fun i h => by omega, fun i _ => rfl⟩
  · intro f z s hz ⟨hs, hv, hw⟩ hnext
    show Rt (k_J7_fill_53178_5 a (f + 1) x (z : Int) (N : Int) s) _
    rw [k_J7_fill_53178_5]
    refine Rt_pos (by omega) (Rt_ck (by rw [hN]; omega) (Rt_lm (Rt_lt ?_)))
    rw [w32s (by omega)]
    refine hnext _ ⟨hs.a (Eq.refl a), fun i hi => ?_, fun i hi => ?_⟩
    · rw [gA_at]
      by_cases e : (i : Int) = (z : Int)
      · rw [if_pos e]
      · rw [if_neg e]; exact hv i (by omega)
    · rw [gA_at, if_neg (by omega)]; exact hw i hi
  · intro f s ⟨hs, hv, hw⟩
    show Rt (k_J7_fill_53178_5 a (f + 1) x (N : Int) (N : Int) s) _
    rw [k_J7_fill_53178_5]
    exact Rt_neg (by omega) (Rt_some ⟨hs, hv, hw⟩)
