/-! elimination without fractions, as mathematics -/
def uv (i j : Nat) : Int := if i = j then 1 else 0
def bkm (A : Nat → Nat → Int) (k : Nat) : Nat → Nat → Int := fun i c => if c < k then A i c else uv i c
def ccm (A : Nat → Nat → Int) (k j i : Nat) : Int := if j < k then uv i j else A i j
def PP (A : Nat → Nat → Int) : Nat → Int
  | 0 => 1
  | k + 1 => A k k * PP A k
def UU (A : Nat → Nat → Int) : Nat → Int
  | 0 => 0
  | k + 1 => A k k * UU A k + PP A k
def rsm (n k : Nat) (m : Nat → Nat → Int) (i : Nat) : Int := sumn n (fun j => if k ≤ j then m i j else 0)
def lapm (n : Nat) (A : Nat → Nat → Int) : Prop := (∀ i j, i < n → j < n → A i j = A j i) ∧ (∀ i j, i < n → j < n → i ≠ j → A i j ≤ 0) ∧ ∀ i, i < n → 0 ≤ sumn n (fun j => A i j)
def BI (n : Nat) (A : Nat → Nat → Int) (k : Nat) (D : Int) (m : Nat → Nat → Int) : Prop :=
  (0 < D ∧ D = dt n (bkm A k)) ∧
  (∀ j i, j < n → i < n → sumn n (fun c => bkm A k i c * m c j) = D * ccm A k j i) ∧
  (∀ i j, i < n → j < n → m j i = if (i < k ↔ j < k) then m i j else -m i j) ∧
  (∀ i j, i < n → j < n → k ≤ j → i ≠ j → m i j ≤ 0) ∧
  (∀ i j, i < n → j < n → i < k → j < k → 0 ≤ m i j) ∧
  (∀ i, i < n → k ≤ i → 0 ≤ rsm n k m i) ∧
  (∀ i, i < n → i < k → -D ≤ rsm n k m i) ∧
  (∀ j, k ≤ j → j < n → m j j ≤ A j j * D) ∧
  (D ≤ PP A k) ∧ (∀ i j, i < n → j < n → i < k → j < k → m i j ≤ UU A k)
theorem sumn_pt {n k : Nat} {f g : Nat → Int} (hk : k < n) (h : ∀ c, c < n → c ≠ k → f c = g c) : sumn n f = sumn n g + (f k - g k) := by
  have e : sumn n f = sumn n (fun c => g c + (if c = k then f k - g k else 0)) := sumn_congr (fun c hc => by
    by_cases q : c = k
    · rw [if_pos q, q]; omega
    · rw [if_neg q, h c hc q]; omega)
  rw [e, sumn_add, sumn_single n k (fun c => if c = k then f k - g k else 0) hk (fun i _ hne => if_neg hne), if_pos rfl]
theorem sumn_le {n : Nat} {f g : Nat → Int} (h : ∀ i, i < n → f i ≤ g i) : sumn n f ≤ sumn n g := by
  induction n with
  | zero => exact Int.le_refl _
  | succ n ih =>
    have h1 := ih (fun i hi => h i (by omega))
    have h2 := h n (by omega)
    show sumn n f + f n ≤ sumn n g + g n
    omega
/-- a sum whose other terms are not above 0 is at most any one of them -/
theorem sumn_le_one {n k : Nat} {f : Nat → Int} (hk : k < n) (h : ∀ i, i < n → i ≠ k → f i ≤ 0) : sumn n f ≤ f k := by
  have e := sumn_le (n := n) (f := f) (g := fun i => if i = k then f k else 0) (fun i hi => by
    by_cases q : i = k
    · rw [if_pos q, q]; exact Int.le_refl _
    · rw [if_neg q]; exact h i hi q)
  rw [sumn_single n k (fun i => if i = k then f k else 0) hk (fun i _ hne => if_neg hne), if_pos rfl] at e
  exact e
theorem rsm_le {n k : Nat} {m : Nat → Nat → Int} {i j : Nat} (hj : j < n) (hkj : k ≤ j) (h : ∀ c, c < n → k ≤ c → c ≠ j → m i c ≤ 0) : rsm n k m i ≤ m i j := by
  have e := sumn_le_one (n := n) (k := j) (f := fun c => if k ≤ c then m i c else 0) hj (fun c hc hne => by
    show (if k ≤ c then m i c else 0) ≤ 0
    by_cases q : k ≤ c
    · rw [if_pos q]; exact h c hc q hne
    · rw [if_neg q]; exact Int.le_refl _)
  rw [if_pos hkj] at e
  exact e
theorem rsm_two {n k : Nat} {m : Nat → Nat → Int} {i j : Nat} (hi : i < n) (hj : j < n) (hki : k ≤ i) (hkj : k ≤ j) (hne : i ≠ j) (h : ∀ c, c < n → k ≤ c → c ≠ i → m i c ≤ 0) : rsm n k m i ≤ m i i + m i j := by
  have e := sumn_le_one (n := n) (k := i) (f := fun c => if c = j then 0 else if k ≤ c then m i c else 0) hi (fun c hc hn2 => by
    show (if c = j then 0 else if k ≤ c then m i c else 0) ≤ 0
    by_cases q2 : c = j
    · rw [if_pos q2]; exact Int.le_refl _
    rw [if_neg q2]
    by_cases q : k ≤ c
    · rw [if_pos q]; exact h c hc q hn2
    · rw [if_neg q]; exact Int.le_refl _)
  have e2 := sumn_pt (n := n) (k := j) (f := fun c => if k ≤ c then m i c else 0) (g := fun c => if c = j then 0 else if k ≤ c then m i c else 0) hj (fun c _ hn2 => by
    show _ = (if c = j then _ else _)
    rw [if_neg hn2])
  rw [if_pos hkj, if_pos rfl] at e2
  rw [if_neg hne, if_pos hki] at e
  show sumn n _ ≤ _
  omega
theorem bkm_next (A : Nat → Nat → Int) (k : Nat) : setc (bkm A k) k (fun i => A i k) = bkm A (k + 1) := by
  funext i c
  unfold setc bkm
  by_cases q : c = k
  · rw [if_pos q, if_pos (by omega), q]
  · rw [if_neg q]
    by_cases q2 : c < k
    · rw [if_pos q2, if_pos (by omega)]
    · rw [if_neg q2, if_neg (by omega)]
theorem BI.zero {n : Nat} {A : Nat → Nat → Int} (h : lapm n A) : BI n A 0 1 A := by
  refine ⟨⟨by omega, ?_⟩, ?_, ?_, ?_, ?_, ?_, ?_, ?_, Int.le_refl _, fun i j _ _ hi => by omega⟩
  · exact (dt_unit n _ (fun i c _ _ => by unfold bkm uv; rw [if_neg (by omega)])).symm
  · intro j i hj hi
    rw [sumn_single n i _ hi (fun c hc hne => by unfold bkm uv; rw [if_neg (by omega), if_neg (fun z => hne z.symm), Int.zero_mul])]
    unfold bkm uv ccm
    rw [if_neg (by omega), if_pos rfl, if_neg (by omega)]
  · intro i j hi hj
    rw [if_pos ⟨fun z => by omega, fun z => by omega⟩]
    exact h.1 j i hj hi
  · intro i j hi hj _ hne
    exact h.2.1 i j hi hj hne
  · intro i j _ _ hi
    omega
  · intro i hi _
    have : rsm n 0 A i = sumn n (fun j => A i j) := sumn_congr (fun j _ => if_pos (by omega))
    rw [this]; exact h.2.2 i hi
  · intro i _ hi
    omega
  · intro j _ _
    rw [Int.mul_one]; exact Int.le_refl _
def bnext (k : Nat) (D : Int) (m : Nat → Nat → Int) : Nat → Nat → Int := fun i j =>
  if i = k then (if j = k then D else m k j) else (if j = k then -m i k else (m k k * m i j - m i k * m k j).tdiv D)
theorem BI.pivot_nonneg {n : Nat} {A : Nat → Nat → Int} {k : Nat} {D : Int} {m : Nat → Nat → Int} (h : BI n A k D m) (hk : k < n) : 0 ≤ m k k := by
  obtain ⟨-, -, -, h4, -, h6, -⟩ := h
  have h1 := h6 k hk (Nat.le_refl k)
  have h2 := rsm_le (n := n) (k := k) (m := m) (i := k) (j := k) hk (Nat.le_refl k) (fun c hc hkc hne => h4 k c hk hc hkc (fun z => hne z.symm))
  omega
theorem mul_cancel_pos {D x y : Int} (h : 0 < D) (e : D * x = D * y) : x = y := Int.eq_of_mul_eq_mul_left (by omega) e
theorem BI.exact {n : Nat} {A : Nat → Nat → Int} {k : Nat} {D : Int} {m : Nat → Nat → Int} (h : BI n A k D m) (hk : k < n) (hp : m k k ≠ 0) :
    m k k = dt n (bkm A (k + 1)) ∧ (∀ i j, i < n → j < n → i ≠ k → j ≠ k → D * bnext k D m i j = m k k * m i j - m i k * m k j) ∧
    (∀ j i, j < n → i < n → sumn n (fun c => bkm A (k + 1) i c * bnext k D m c j) = m k k * ccm A (k + 1) j i) := by
  have hpp : 0 < m k k := by have := h.pivot_nonneg hk; omega
  obtain ⟨⟨hD, hDd⟩, h2, -⟩ := h
  have e1 : m k k = dt n (bkm A (k + 1)) := by
    have c := dt_cramer n (bkm A k) (fun c => m c k) (fun i => D * A i k) (fun i hi => by
      rw [h2 k i hk hi]; unfold ccm; rw [if_neg (by omega)]) k hk
    have c2 := dt_lin n k (bkm A k) D 0 (fun i => A i k) (fun _ => 0) hk
    have c3 : (fun i => D * A i k + 0 * (0 : Int)) = (fun i => D * A i k) := by funext i; omega
    rw [c3, bkm_next, Int.zero_mul, Int.add_zero] at c2
    rw [c2, ← hDd] at c
    exact mul_cancel_pos hD c
  have hz : ∀ j, j < n → j ≠ k → ∀ i, i < n → sumn n (fun c => bkm A (k + 1) i c * (if c = k then D * m k j else m k k * m c j - m c k * m k j)) = D * m k k * ccm A (k + 1) j i := by
    intro j hj hjk i hi
    have s1 := sumn_pt (n := n) (k := k) (f := fun c => bkm A (k + 1) i c * (if c = k then D * m k j else m k k * m c j - m c k * m k j)) (g := fun c => m k k * (bkm A k i c * m c j) + (-m k j) * (bkm A k i c * m c k)) hk (fun c hc hne => by
      show bkm A (k + 1) i c * (if c = k then _ else _) = _
      rw [if_neg hne, show bkm A (k + 1) i c = bkm A k i c by
        unfold bkm
        by_cases q : c < k
        · rw [if_pos q, if_pos (by omega)]
        · rw [if_neg q, if_neg (by omega)]]
      grind)
    have s2 : sumn n (fun c => m k k * (bkm A k i c * m c j) + (-m k j) * (bkm A k i c * m c k)) = m k k * (D * ccm A k j i) + (-m k j) * (D * ccm A k k i) := by
      rw [sumn_add, sumn_mul, sumn_mul, h2 j i hj hi, h2 k i hk hi]
    have s3 : ccm A k k i = A i k := by unfold ccm; rw [if_neg (by omega)]
    have s4 : ccm A (k + 1) j i = ccm A k j i := by
      unfold ccm
      by_cases q : j < k
      · rw [if_pos q, if_pos (by omega)]
      · rw [if_neg q, if_neg (by omega)]
    have s5 : bkm A (k + 1) i k = A i k := by unfold bkm; rw [if_pos (by omega)]
    rw [s1, s2, s3, s4]
    show _ + (bkm A (k + 1) i k * (if k = k then _ else _) - _) = _
    rw [if_pos rfl, s5]
    grind
  have hq : ∀ j, j < n → j ≠ k → ∀ i, i < n → (if i = k then D * m k j else m k k * m i j - m i k * m k j) = D * dt n (setc (bkm A (k + 1)) i (ccm A (k + 1) j)) := by
    intro j hj hjk i hi
    have c := dt_cramer n (bkm A (k + 1)) (fun c => if c = k then D * m k j else m k k * m c j - m c k * m k j) (fun i => D * m k k * ccm A (k + 1) j i) (hz j hj hjk) i hi
    have c2 := dt_lin n i (bkm A (k + 1)) (D * m k k) 0 (ccm A (k + 1) j) (fun _ => 0) hi
    have c3 : (fun i => D * m k k * ccm A (k + 1) j i + 0 * (0 : Int)) = (fun i => D * m k k * ccm A (k + 1) j i) := by funext i; omega
    rw [c3, Int.zero_mul, Int.add_zero] at c2
    rw [c2, ← e1] at c
    refine mul_cancel_pos hpp ?_
    rw [c]
    grind
  have hf : ∀ i j, i < n → j < n → i ≠ k → j ≠ k → D * bnext k D m i j = m k k * m i j - m i k * m k j := by
    intro i j hi hj hik hjk
    have c := hq j hj hjk i hi
    rw [if_neg hik] at c
    unfold bnext
    rw [if_neg hik, if_neg hjk, c, Int.mul_tdiv_cancel_left _ (by omega)]
  refine ⟨e1, hf, ?_⟩
  intro j i hj hi
  by_cases hjk : j = k
  · subst hjk
    have s1 := sumn_pt (n := n) (k := j) (f := fun c => bkm A (j + 1) i c * bnext j D m c j) (g := fun c => -1 * (bkm A j i c * m c j)) hk (fun c hc hne => by
      show bkm A (j + 1) i c * bnext j D m c j = _
      unfold bnext
      rw [if_neg hne, if_pos rfl, show bkm A (j + 1) i c = bkm A j i c by
        unfold bkm
        by_cases q : c < j
        · rw [if_pos q, if_pos (by omega)]
        · rw [if_neg q, if_neg (by omega)]]
      grind)
    have s2 : sumn n (fun c => -1 * (bkm A j i c * m c j)) = -1 * (D * A i j) := by
      rw [sumn_mul, h2 j i hj hi]; unfold ccm; rw [if_neg (by omega)]
    have s5 : bkm A (j + 1) i j = A i j := by unfold bkm; rw [if_pos (by omega)]
    have s6 : bkm A j i j = uv i j := by unfold bkm; rw [if_neg (by omega)]
    have s7 : bnext j D m j j = D := by unfold bnext; rw [if_pos rfl, if_pos rfl]
    have s8 : ccm A (j + 1) j i = uv i j := by unfold ccm; rw [if_pos (by omega)]
    rw [s1, s2, s8]
    show _ + (bkm A (j + 1) i j * bnext j D m j j - -1 * (bkm A j i j * m j j)) = _
    rw [s5, s6, s7]
    grind
  · refine mul_cancel_pos hD ?_
    have s1 := hz j hj hjk i hi
    rw [← sumn_mul]
    rw [sumn_congr (f := fun c => D * (bkm A (k + 1) i c * bnext k D m c j)) (g := fun c => bkm A (k + 1) i c * (if c = k then D * m k j else m k k * m c j - m c k * m k j)) (fun c hc => by
      by_cases q : c = k
      · subst q
        rw [if_pos rfl]
        unfold bnext
        rw [if_pos rfl, if_neg hjk]
        grind
      · rw [if_neg q, ← hf c j hc hj q hjk]
        grind), s1]
    grind
