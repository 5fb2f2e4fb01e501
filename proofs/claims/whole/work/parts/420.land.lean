/-! the land as numbers: matrices, sources, rests -/
abbrev LV : Type := (Nat → Int → Int) × (Nat → Int)
def nb (x : Int) (i : Nat) : Int := if x = (i : Int) then 1 else 0
abbrev bt (p : Int) (r : Nat) : Prop := gand (gshr p (r : Int)) 1 = 1
def nn (v : LV) (j : Nat) : Nat := (v.2 j).toNat
def wfL (v : LV) : Prop :=
  (0 ≤ v.2 0 ∧ v.2 0 ≤ 6) ∧ (0 ≤ v.2 1 ∧ v.2 1 ≤ 12) ∧ (0 ≤ v.2 2 ∧ v.2 2 ≤ 3) ∧ (0 ≤ v.2 3 ∧ v.2 3 ≤ 2) ∧ (0 ≤ v.2 4 ∧ v.2 4 ≤ 3) ∧
  (∀ c : Nat, c < nn v 0 → 0 ≤ v.1 1 c ∧ v.1 1 c ≤ 99) ∧
  (∀ l : Nat, l < nn v 1 → (0 ≤ v.1 3 l ∧ v.1 3 l < v.2 0) ∧ (0 ≤ v.1 4 l ∧ v.1 4 l < v.2 0) ∧ v.1 3 l ≠ v.1 4 l ∧ 1 ≤ v.1 5 l ∧ v.1 5 l ≤ 9) ∧
  (∀ r : Nat, r < nn v 2 → (0 ≤ v.1 6 r ∧ v.1 6 r < v.2 0) ∧ (0 ≤ v.1 8 r ∧ v.1 8 r ≤ v.1 7 r ∧ v.1 7 r ≤ 1000) ∧ 1 ≤ v.1 9 r ∧ v.1 9 r ≤ 9) ∧
  (∀ d : Nat, d < nn v 3 → (0 ≤ v.1 10 d ∧ v.1 10 d < v.2 0) ∧ (0 ≤ v.1 11 d ∧ v.1 11 d ≤ 1000) ∧ 1 ≤ v.1 12 d ∧ v.1 12 d ≤ 9) ∧
  (∀ w : Nat, w < nn v 4 → (0 ≤ v.1 13 w ∧ v.1 13 w < v.2 0) ∧ 0 ≤ v.1 16 w ∧ v.1 16 w ≤ 99)
def xl (v : LV) (l i : Nat) : Int := nb (v.1 3 l) i - nb (v.1 4 l) i
def lapn (v : LV) (z i j : Nat) : Int := sumn z (fun l => v.1 5 l * (xl v l i * xl v l j))
def tien (v : LV) (p : Int) (z i : Nat) : Int := sumn z (fun r => if bt p r then nb (v.1 6 r) i * v.1 9 r else 0)
def rund (v : LV) (p : Int) (z i : Nat) : Int := sumn z (fun d => if bt p (d + 3) then nb (v.1 10 d) i * v.1 12 d else 0)
def mat (v : LV) (p : Int) (i j : Nat) : Int := lapn v (nn v 1) i j + (if i = j then tien v p (nn v 2) i + rund v p (nn v 3) i else 0)
def srcr (v : LV) (p : Int) (z i : Nat) : Int := sumn z (fun r => nb (v.1 6 r) i * (v.1 9 r * (if bt p r then v.1 7 r else v.1 7 r - v.1 8 r)))
def srcd (v : LV) (p : Int) (z i : Nat) : Int := sumn z (fun d => if bt p (d + 3) then nb (v.1 10 d) i * (v.1 12 d * v.1 11 d) else 0)
def srcw (v : LV) (z i : Nat) : Int := sumn z (fun w => nb (v.1 13 w) i * v.1 16 w)
def src (v : LV) (p : Int) (i : Nat) : Int := v.1 1 i + srcr v p (nn v 2) i + srcd v p (nn v 3) i - srcw v (nn v 4) i
def detv (v : LV) (p : Int) : Int := dt (nn v 0) (mat v p)
def upv (v : LV) (p : Int) (c : Nat) : Int := dt (nn v 0) (setc (mat v p) c (src v p))
def fitv (v : LV) (p : Int) : Prop :=
  (∀ r, r < nn v 2 → (v.1 8 r * detv v p ≤ upv v p (v.1 6 r).toNat ↔ bt p r)) ∧
  (∀ d, d < nn v 3 → (v.1 11 d * detv v p < upv v p (v.1 10 d).toNat ↔ bt p (d + 3)))
def isR (v : LV) (p : Int) : Prop := detv v p ≠ 0 ∧ fitv v p
def okp (v : LV) (p : Int) : Prop := 0 ≤ p ∧ p < 32 ∧ gshr (gand p 7) (v.2 2) = 0 ∧ gshr (gshr p 3) (v.2 3) = 0
theorem nb_nn (x : Int) (i : Nat) : 0 ≤ nb x i ∧ nb x i ≤ 1 := by unfold nb; split <;> omega
theorem nb_sum {x : Int} {n : Nat} (h0 : 0 ≤ x) (h : x < n) (f : Nat → Int) : sumn n (fun i => nb x i * f i) = f x.toNat := by
  rw [sumn_single n x.toNat _ (by omega) (fun i hi hne => by unfold nb; rw [if_neg (by omega), Int.zero_mul])]
  unfold nb; rw [if_pos (by omega), Int.one_mul]
theorem sumn_mulr (n : Nat) (a : Int) (f : Nat → Int) : sumn n (fun i => f i * a) = sumn n f * a := by
  rw [sumn_congr (fun i _ => Int.mul_comm (f i) a), sumn_mul, Int.mul_comm]
theorem sumn_sub (n : Nat) (f g : Nat → Int) : sumn n (fun i => f i - g i) = sumn n f - sumn n g := by
  have h : sumn n (fun i => f i - g i) = sumn n (fun i => f i + -g i) := sumn_congr (fun i _ => by omega)
  rw [h, sumn_add, sumn_neg]; omega
theorem sumn_nn {n : Nat} {f : Nat → Int} (h : ∀ i, i < n → 0 ≤ f i) : 0 ≤ sumn n f := by
  have := sumn_le (n := n) (f := fun _ => 0) (g := f) h
  rw [sumn_zero] at this
  exact this
theorem sumn_const (n : Nat) (a : Int) : sumn n (fun _ => a) = n * a := by
  induction n with
  | zero => show 0 = ((0 : Nat) : Int) * a; rw [Int.natCast_zero, Int.zero_mul]
  | succ n ih =>
    show sumn n (fun _ => a) + a = _
    rw [ih, Int.natCast_add, Int.add_mul]; omega
theorem sumn_ub {n : Nat} {f : Nat → Int} {a : Int} (h : ∀ i, i < n → f i ≤ a) : sumn n f ≤ n * a := by
  have := sumn_le (n := n) (f := f) (g := fun _ => a) h
  rw [sumn_const] at this
  exact this
theorem nn_c {v : LV} (hv : wfL v) (j : Nat) (hj : j ≤ 4) : ((nn v j : Nat) : Int) = v.2 j := by
  unfold nn
  obtain ⟨h0, h1, h2, h3, h4, -⟩ := hv
  match j, hj with
  | 0, _ => omega
  | 1, _ => omega
  | 2, _ => omega
  | 3, _ => omega
  | 4, _ => omega
  | j + 5, h => omega
/-- what links carry, as differences -/
theorem xl_sum {v : LV} (hv : wfL v) {l : Nat} (hl : l < nn v 1) (f : Nat → Int) : sumn (nn v 0) (fun c => xl v l c * f c) = f (v.1 3 l).toNat - f (v.1 4 l).toNat := by
  have h := hv.2.2.2.2.2.2.1 l hl
  have e0 := nn_c hv 0 (by omega)
  have e : sumn (nn v 0) (fun c => xl v l c * f c) = sumn (nn v 0) (fun c => nb (v.1 3 l) c * f c - nb (v.1 4 l) c * f c) := sumn_congr (fun c _ => by unfold xl; rw [Int.sub_mul])
  rw [e, sumn_sub, nb_sum h.1.1 (by omega), nb_sum h.2.1.1 (by omega)]
theorem lap_mul {v : LV} (hv : wfL v) (i : Nat) (f : Nat → Int) : sumn (nn v 0) (fun c => lapn v (nn v 1) i c * f c) = sumn (nn v 1) (fun l => v.1 5 l * xl v l i * (f (v.1 3 l).toNat - f (v.1 4 l).toNat)) := by
  have e : sumn (nn v 0) (fun c => lapn v (nn v 1) i c * f c) = sumn (nn v 0) (fun c => sumn (nn v 1) (fun l => v.1 5 l * xl v l i * (xl v l c * f c))) := sumn_congr (fun c _ => by
    unfold lapn
    rw [← sumn_mulr]
    exact sumn_congr (fun l _ => by grind))
  rw [e, sumn_swap]
  refine sumn_congr (fun l hl => ?_)
  rw [sumn_mul, xl_sum hv hl]
theorem mat_mul {v : LV} (hv : wfL v) (p : Int) {i : Nat} (hi : i < nn v 0) (f : Nat → Int) : sumn (nn v 0) (fun c => mat v p i c * f c) = sumn (nn v 1) (fun l => v.1 5 l * xl v l i * (f (v.1 3 l).toNat - f (v.1 4 l).toNat)) + (tien v p (nn v 2) i + rund v p (nn v 3) i) * f i := by
  have e : sumn (nn v 0) (fun c => mat v p i c * f c) = sumn (nn v 0) (fun c => lapn v (nn v 1) i c * f c + (if i = c then tien v p (nn v 2) i + rund v p (nn v 3) i else 0) * f c) := sumn_congr (fun c _ => by unfold mat; rw [Int.add_mul])
  rw [e, sumn_add, lap_mul hv, sumn_single (nn v 0) i (fun c => (if i = c then tien v p (nn v 2) i + rund v p (nn v 3) i else 0) * f c) hi (fun c _ hne => by rw [if_neg (fun z => hne z.symm), Int.zero_mul]), if_pos rfl]
theorem tie_nn {v : LV} (hv : wfL v) (p : Int) (i : Nat) : 0 ≤ tien v p (nn v 2) i + rund v p (nn v 3) i := by
  have a : 0 ≤ tien v p (nn v 2) i := sumn_nn (fun r hr => by
    have h := hv.2.2.2.2.2.2.2.1 r hr
    split
    · exact Int.mul_nonneg (nb_nn _ _).1 (by omega)
    · omega)
  have b : 0 ≤ rund v p (nn v 3) i := sumn_nn (fun d hd => by
    have h := hv.2.2.2.2.2.2.2.2.1 d hd
    split
    · exact Int.mul_nonneg (nb_nn _ _).1 (by omega)
    · omega)
  omega
theorem mat_lap {v : LV} (hv : wfL v) (p : Int) : lapm (nn v 0) (mat v p) := by
  refine ⟨fun i j _ _ => ?_, fun i j _ _ hne => ?_, fun i hi => ?_⟩
  · unfold mat
    have e : lapn v (nn v 1) i j = lapn v (nn v 1) j i := sumn_congr (fun l _ => by rw [Int.mul_comm (xl v l i)])
    rw [e]
    by_cases q : i = j
    · subst q; rfl
    · rw [if_neg q, if_neg (fun z => q z.symm)]
  · unfold mat
    rw [if_neg hne, Int.add_zero]
    have := sumn_le (n := nn v 1) (f := fun l => v.1 5 l * (xl v l i * xl v l j)) (g := fun _ => 0) (fun l hl => by
      have h := hv.2.2.2.2.2.2.1 l hl
      refine mul_pn (by omega) ?_
      unfold xl nb
      have h3 := h.2.2.1
      split <;> split <;> split <;> split <;> omega)
    rw [sumn_zero] at this
    exact this
  · have e := mat_mul hv p hi (fun _ => 1)
    rw [sumn_congr (f := fun c => mat v p i c * 1) (g := fun c => mat v p i c) (fun c _ => Int.mul_one _)] at e
    rw [e, sumn_all0 (fun l _ => by rw [Int.sub_self, Int.mul_zero]), Int.mul_one, Int.zero_add]
    exact tie_nn hv p i
theorem mat_dgs {v : LV} (hv : wfL v) (p : Int) : dgs (mat v p) := by
  have hd : ∀ i, mat v p i i = sumn (nn v 1) (fun l => v.1 5 l * (xl v l i * xl v l i)) + (tien v p (nn v 2) i + rund v p (nn v 3) i) := fun i => by
    unfold mat lapn; rw [if_pos rfl]
  have e0 := nn_c hv 0 (by omega)
  have e1 := nn_c hv 1 (by omega)
  have e2 := nn_c hv 2 (by omega)
  have e3 := nn_c hv 3 (by omega)
  have h0 := hv.1
  have h1 := hv.2.1
  have h2 := hv.2.2.1
  have h3 := hv.2.2.2.1
  refine ⟨fun i _ => ?_, ?_⟩
  · rw [hd]
    have a : 0 ≤ sumn (nn v 1) (fun l => v.1 5 l * (xl v l i * xl v l i)) := sumn_nn (fun l hl => by
      have h := hv.2.2.2.2.2.2.1 l hl
      exact Int.mul_nonneg (by omega) (sq_nn _))
    have b := tie_nn hv p i
    omega
  · have es : mat v p 0 0 + mat v p 1 1 + mat v p 2 2 + mat v p 3 3 + mat v p 4 4 + mat v p 5 5 = sumn 6 (fun i => mat v p i i) := by
      show _ = 0 + mat v p 0 0 + mat v p 1 1 + mat v p 2 2 + mat v p 3 3 + mat v p 4 4 + mat v p 5 5
      omega
    rw [es, sumn_congr (fun i _ => hd i), sumn_add, sumn_add, sumn_swap 6 (nn v 1)]
    have l1 : sumn (nn v 1) (fun l => sumn 6 (fun i => v.1 5 l * (xl v l i * xl v l i))) ≤ (nn v 1 : Int) * 18 := sumn_ub (fun l hl => by
      have h := hv.2.2.2.2.2.2.1 l hl
      rw [sumn_mul]
      have e : sumn 6 (fun i => xl v l i * xl v l i) ≤ 2 := by
        have e5 : sumn 6 (fun i => xl v l i * xl v l i) ≤ sumn 6 (fun i => nb (v.1 3 l) i * 1 + nb (v.1 4 l) i * 1) := sumn_le (fun i _ => by
          unfold xl nb
          split <;> split <;> omega)
        rw [sumn_add, nb_sum h.1.1 (by omega), nb_sum h.2.1.1 (by omega)] at e5
        omega
      have m := mul_mono h.2.2.2.2 e (sumn_nn (fun i _ => sq_nn _)) (by omega)
      omega)
    have l2 : sumn 6 (fun i => tien v p (nn v 2) i) ≤ (nn v 2 : Int) * 9 := by
      unfold tien
      rw [sumn_swap]
      refine sumn_ub (fun r hr => ?_)
      have h := hv.2.2.2.2.2.2.2.1 r hr
      by_cases q : bt p r
      · rw [sumn_congr (fun i _ => if_pos q), nb_sum h.1.1 (by omega)]; omega
      · rw [sumn_congr (fun i _ => if_neg q), sumn_zero]; omega
    have l3 : sumn 6 (fun i => rund v p (nn v 3) i) ≤ (nn v 3 : Int) * 9 := by
      unfold rund
      rw [sumn_swap]
      refine sumn_ub (fun r hr => ?_)
      have h := hv.2.2.2.2.2.2.2.2.1 r hr
      by_cases q : bt p (r + 3)
      · rw [sumn_congr (fun i _ => if_pos q), nb_sum h.1.1 (by omega)]; omega
      · rw [sumn_congr (fun i _ => if_neg q), sumn_zero]; omega
    have l2' : sumn 6 (tien v p (nn v 2)) ≤ (nn v 2 : Int) * 9 := l2
    have l3' : sumn 6 (rund v p (nn v 3)) ≤ (nn v 3 : Int) * 9 := l3
    omega
theorem bareiss_ex {n : Nat} {A : Nat → Nat → Int} (hA : lapm n A) : ∀ k, k ≤ n → dt n A = 0 ∨ ∃ D m, BI n A k D m
  | 0, _ => Or.inr ⟨1, A, BI.zero hA⟩
  | k + 1, hk => by
    rcases bareiss_ex hA k (by omega) with h | ⟨D, m, h⟩
    · exact Or.inl h
    · by_cases q : m k k = 0
      · exact Or.inl (h.sing (by omega) q)
      · exact Or.inr ⟨_, _, h.step hA (by omega) q⟩
/-- what an inverse with its determinant gives -/
def adjOK (v : LV) (p : Int) (D : Int) (m : Nat → Nat → Int) : Prop :=
  D = detv v p ∧ (0 < D ∧ D ≤ 6780000000) ∧ (∀ i j, i < nn v 0 → j < nn v 0 → sumn (nn v 0) (fun c => mat v p i c * m c j) = D * uv i j) ∧ ∀ i j, i < nn v 0 → j < nn v 0 → 0 ≤ m i j ∧ m i j ≤ 934600000
theorem n6 {v : LV} (hv : wfL v) : nn v 0 ≤ 6 := by
  have h0 := hv.1
  have e0 := nn_c hv 0 (by omega)
  omega
theorem adj_of_BI {v : LV} (hv : wfL v) {p D : Int} {m : Nat → Nat → Int} (h : BI (nn v 0) (mat v p) (nn v 0) D m) : adjOK v p D m := by
  obtain ⟨h1, h2, h3, h4, h5⟩ := h.last
  have b := PU_6 (mat_dgs hv p) (n6 hv)
  exact ⟨h1, ⟨h5, by omega⟩, h2, fun i j hi hj => ⟨(h3 i j hi hj).1, by have := (h3 i j hi hj).2; omega⟩⟩
theorem adj_ex {v : LV} (hv : wfL v) (p : Int) : detv v p = 0 ∨ ∃ m, adjOK v p (detv v p) m := by
  rcases bareiss_ex (mat_lap hv p) (nn v 0) (Nat.le_refl _) with h | ⟨D, m, h⟩
  · exact Or.inl h
  · have a := adj_of_BI hv h
    exact Or.inr ⟨m, a.1 ▸ a⟩
theorem det_range {v : LV} (hv : wfL v) (p : Int) : 0 ≤ detv v p ∧ detv v p ≤ 6780000000 := by
  rcases adj_ex hv p with h | ⟨m, h⟩
  · omega
  · have := h.2.1; omega
