/-! spills: the order of cells; what goes where, as numbers -/
def pc6 (d : Nat) : Nat := d % 2 + d / 2 % 2 + d / 4 % 2 + d / 8 % 2 + d / 16 % 2 + d / 32 % 2
theorem bt_or : ∀ c : Nat, c < 6 → ∀ d : Nat, d < 64 → d / 2 ^ c % 2 = 0 → gor (d : Int) (gshl 1 (c : Int)) = ((d + 2 ^ c : Nat) : Int) := by decide +kernel
theorem bt_ex : ∀ n : Nat, n < 7 → ∀ d : Nat, d < 2 ^ n → pc6 d < n → ∃ c, c < n ∧ d / 2 ^ c % 2 = 0 := by decide +kernel
theorem bt_add1 : ∀ n : Nat, n < 7 → ∀ c : Nat, c < n → ∀ d : Nat, d < 2 ^ n → d / 2 ^ c % 2 = 0 → d + 2 ^ c < 2 ^ n ∧ pc6 (d + 2 ^ c) = pc6 d + 1 := by decide +kernel
theorem bt_add2 : ∀ c : Nat, c < 6 → ∀ e : Nat, e < 6 → ∀ d : Nat, d < 64 → d / 2 ^ c % 2 = 0 → (d + 2 ^ c) / 2 ^ e % 2 = if e = c then 1 else d / 2 ^ e % 2 := by decide +kernel
theorem two_le : ∀ n : Nat, n < 7 → 2 ^ n ≤ 64 := by decide +kernel
theorem bt_add (n : Nat) (hn : n < 7) (c : Nat) (hc : c < n) (d : Nat) (hd : d < 2 ^ n) (h : d / 2 ^ c % 2 = 0) : d + 2 ^ c < 2 ^ n ∧ pc6 (d + 2 ^ c) = pc6 d + 1 ∧ ∀ e : Nat, e < n → (d + 2 ^ c) / 2 ^ e % 2 = if e = c then 1 else d / 2 ^ e % 2 := by
  have a := bt_add1 n hn c hc d hd h
  have b := two_le n hn
  exact ⟨a.1, a.2, fun e he => bt_add2 c (by omega) e (by omega) d (by omega) h⟩
theorem bt_all : ∀ n : Nat, n < 7 → ∀ d : Nat, d < 2 ^ n → pc6 d = n → ∀ e : Nat, e < n → d / 2 ^ e % 2 = 1 := by decide +kernel
def hb (f : Nat → Int) (d : Nat) : Nat → Option Nat
  | 0 => none
  | z + 1 => if d / 2 ^ z % 2 = 0 then (match hb f d z with
    | none => some z
    | some k => if f k < f z then some z else some k) else hb f d z
def hbI (f : Nat → Int) (d z : Nat) : Int := match hb f d z with
  | none => -10000009
  | some k => (k : Int)
theorem hb_some (f : Nat → Int) (d : Nat) : ∀ z k, hb f d z = some k → k < z ∧ d / 2 ^ k % 2 = 0 ∧ ∀ c, c < z → d / 2 ^ c % 2 = 0 → f c ≤ f k
  | 0, k, h => by cases h
  | z + 1, k, h => by
    unfold hb at h
    by_cases q : d / 2 ^ z % 2 = 0
    · rw [if_pos q] at h
      cases e : hb f d z with
      | none =>
        rw [e] at h
        cases h
        refine ⟨by omega, q, fun c hc hd => ?_⟩
        by_cases qc : c = z
        · rw [qc]; exact Int.le_refl _
        · exfalso
          have : ∀ y, y ≤ z → hb f d y = none → ∀ c, c < y → d / 2 ^ c % 2 ≠ 0 := by
            intro y
            induction y with
            | zero => intro _ _ c hc; omega
            | succ y ih =>
              intro hy hn c hc
              unfold hb at hn
              by_cases q2 : d / 2 ^ y % 2 = 0
              · rw [if_pos q2] at hn
                cases e2 : hb f d y with
                | none => rw [e2] at hn; cases hn
                | some j =>
                  rw [e2] at hn
                  dsimp only at hn
                  split at hn <;> cases hn
              · rw [if_neg q2] at hn
                by_cases q3 : c = y
                · rw [q3]; exact q2
                · exact ih (by omega) hn c (by omega)
          exact this z (Nat.le_refl _) e c (by omega) hd
      | some j =>
        have ih := hb_some f d z j e
        rw [e] at h
        dsimp only at h
        by_cases g : f j < f z
        · rw [if_pos g] at h
          cases h
          refine ⟨by omega, q, fun c hc hd => ?_⟩
          by_cases qc : c = z
          · rw [qc]; exact Int.le_refl _
          · have := ih.2.2 c (by omega) hd; omega
        · rw [if_neg g] at h
          cases h
          refine ⟨by omega, ih.2.1, fun c hc hd => ?_⟩
          by_cases qc : c = z
          · rw [qc]; omega
          · exact ih.2.2 c (by omega) hd
    · rw [if_neg q] at h
      have ih := hb_some f d z k h
      refine ⟨by omega, ih.2.1, fun c hc hd => ih.2.2 c ?_ hd⟩
      by_cases qc : c = z
      · rw [qc] at hd; exact absurd hd q
      · omega
theorem hb_ex (f : Nat → Int) (d : Nat) : ∀ z, (∃ c, c < z ∧ d / 2 ^ c % 2 = 0) → ∃ k, hb f d z = some k
  | 0, h => by obtain ⟨c, h1, _⟩ := h; omega
  | z + 1, h => by
    unfold hb
    by_cases q : d / 2 ^ z % 2 = 0
    · rw [if_pos q]
      cases e : hb f d z with
      | none => exact ⟨z, rfl⟩
      | some j =>
        dsimp only
        split
        · exact ⟨z, rfl⟩
        · exact ⟨j, rfl⟩
    · rw [if_neg q]
      obtain ⟨c, h1, h2⟩ := h
      refine hb_ex f d z ⟨c, ?_, h2⟩
      by_cases qc : c = z
      · rw [qc] at h2; exact absurd h2 q
      · omega
def shv (o : OT) (m : Int) (i : Nat) : Int := m * o.2.2 i / sumn o.1 o.2.2
def lft (o : OT) (m : Int) : Int := m - sumn o.1 (shv o m)
def amt (o : OT) (m : Int) (i : Nat) : Int := shv o m i + (if gr o.2.2 o.1 = some i then lft o m else 0)
def arz (g : Nat → Int) (o : OT) (z : Nat) (t : Int) : Int := sumn z (fun i => if o.2.1 i = t then g i else 0)
def arr (o : OT) (m : Int) (t : Int) : Int := arz (amt o m) o o.1 t
abbrev SS : Type := Nat × (Nat → Int) × Int
def stepS (v : LV) (p e : Int) (s : SS) : SS := match hb (upv v p) s.1 (nn v 0) with
  | none => s
  | some c => (s.1 + 2 ^ c, (if (outs v p c).1 = 0 then s.2.1 else fun t => if t = c then 0 else s.2.1 t + arr (outs v p c) (s.2.1 c) t), (if (outs v p c).1 = 0 then s.2.2 else s.2.2 + (if 100 ≤ e then arr (outs v p c) (s.2.1 c) e else 0)))
def runS (v : LV) (p e : Int) (c : Nat) : Nat → SS
  | 0 => (0, fun t => if t = c then 1000000 else 0, 0)
  | k + 1 => stepS v p e (runS v p e c k)
def oOK (n : Int) (o : OT) : Prop := (∀ i, i < o.1 → 0 < o.2.2 i) ∧ ∀ i, i < o.1 → (0 ≤ o.2.1 i ∧ o.2.1 i < n) ∨ 100 ≤ o.2.1 i
theorem oOK.pos {n : Int} {o : OT} (h : oOK n o) : ∀ i, i < o.1 → 0 < o.2.2 i := h.1
theorem oOK.tgt {n : Int} {o : OT} (h : oOK n o) : ∀ i, i < o.1 → (0 ≤ o.2.1 i ∧ o.2.1 i < n) ∨ 100 ≤ o.2.1 i := h.2
theorem oOK.f0 {n : Int} {o : OT} (h : oOK n o) : ∀ i, i < o.1 → 0 ≤ o.2.2 i := fun i hi => by have := h.pos i hi; omega
theorem oOK.tot {n : Int} {o : OT} (h : oOK n o) (h0 : o.1 ≠ 0) : 1 ≤ sumn o.1 o.2.2 := by
  have a := sumn_mem (f := o.2.2) (n := o.1) (i := 0) (by omega) h.f0
  have b := h.pos 0 (by omega)
  omega
theorem oOK.le {n : Int} {o : OT} (h : oOK n o) {i : Nat} (hi : i < o.1) : o.2.2 i ≤ sumn o.1 o.2.2 := sumn_mem hi h.f0
theorem oOK.sh {n : Int} {o : OT} (h : oOK n o) {m : Int} (hm : 0 ≤ m) {i : Nat} (hi : i < o.1) : 0 ≤ shv o m i ∧ shv o m i ≤ m := mf_b hm (h.f0 i hi) (h.le hi) (h.tot (by omega))
theorem shs_le {o : OT} {m T : Int} (hT : 0 < T) : ∀ z, sumn z (fun i => m * o.2.2 i / T) * T ≤ m * sumn z o.2.2
  | 0 => by show (0 : Int) * T ≤ m * 0; omega
  | z + 1 => by
    have ih := shs_le (o := o) (m := m) hT z
    show (sumn z (fun i => m * o.2.2 i / T) + m * o.2.2 z / T) * T ≤ m * (sumn z o.2.2 + o.2.2 z)
    have d := Int.ediv_mul_le (m * o.2.2 z) (show T ≠ 0 by omega)
    rw [Int.add_mul, Int.mul_add]
    omega
theorem oOK.lf {n : Int} {o : OT} (h : oOK n o) (h0 : o.1 ≠ 0) {m : Int} (hm : 0 ≤ m) : 0 ≤ sumn o.1 (shv o m) ∧ 0 ≤ lft o m := by
  have T := h.tot h0
  have a := shs_le (o := o) (m := m) (T := sumn o.1 o.2.2) (by omega) o.1
  have b : sumn o.1 (shv o m) ≤ m := Int.le_of_mul_le_mul_right a (by omega)
  refine ⟨sumn_nn (fun i hi => (h.sh hm hi).1), ?_⟩
  unfold lft
  omega
theorem oOK.am {n : Int} {o : OT} (h : oOK n o) {m : Int} (hm : 0 ≤ m) {i : Nat} (hi : i < o.1) : shv o m i ≤ amt o m i ∧ 0 ≤ amt o m i := by
  have a := h.sh hm hi
  have b := h.lf (by omega) hm
  unfold amt
  split <;> omega
theorem ar_split {o : OT} {m : Int} {g : Nat} (hg : gr o.2.2 o.1 = some g) (t : Int) : arr o m t = arz (shv o m) o o.1 t + (if o.2.1 g = t then lft o m else 0) := by
  have gl := gr_lt _ _ _ hg
  unfold arr arz
  have e : sumn o.1 (fun i => if o.2.1 i = t then amt o m i else 0) = sumn o.1 (fun i => (if o.2.1 i = t then shv o m i else 0) + (if i = g then (if o.2.1 g = t then lft o m else 0) else 0)) := sumn_congr (fun i hi => by
    unfold amt
    rw [hg]
    by_cases q : i = g
    · subst q
      by_cases q2 : o.2.1 i = t
      · rw [if_pos q2, if_pos q2, if_pos rfl, if_pos rfl, if_pos q2]
      · rw [if_neg q2, if_neg q2, if_pos rfl, if_neg q2]; rfl
    · have nq : ¬ (some g = some i) := fun z => q (by cases z; rfl)
      rw [if_neg nq, if_neg q]
      by_cases q2 : o.2.1 i = t
      · rw [if_pos q2, if_pos q2]
      · rw [if_neg q2, if_neg q2]; rfl)
  rw [e, sumn_add, sumn_single o.1 g _ gl (fun i _ hne => if_neg hne), if_pos rfl]
theorem am_tot {o : OT} {m : Int} (h0 : o.1 ≠ 0) : sumn o.1 (amt o m) = m := by
  obtain ⟨g, hg⟩ := gr_some o.2.2 o.1 (by omega)
  have gl := gr_lt _ _ _ hg
  have e : sumn o.1 (amt o m) = sumn o.1 (fun i => shv o m i + (if i = g then lft o m else 0)) := sumn_congr (fun i hi => by
    unfold amt
    rw [hg]
    by_cases q : i = g
    · subst q; rw [if_pos rfl, if_pos rfl]
    · have nq : ¬ (some g = some i) := fun z => q (by cases z; rfl)
      rw [if_neg nq, if_neg q])
  rw [e, sumn_add, sumn_single o.1 g _ gl (fun i _ hne => if_neg hne), if_pos rfl]
  unfold lft
  have : sumn o.1 (fun i => shv o m i) = sumn o.1 (shv o m) := rfl
  omega
theorem arz_nn {o : OT} {g : Nat → Int} {z : Nat} {t : Int} (h : ∀ i, i < z → 0 ≤ g i) : 0 ≤ arz g o z t := sumn_nn (fun i hi => by
  have := h i hi
  split <;> omega)
theorem arz_pre {o : OT} {g : Nat → Int} {z n : Nat} {t : Int} (hz : z ≤ n) (h : ∀ i, i < n → 0 ≤ g i) : arz g o z t ≤ arz g o n t := sumn_pre hz (fun i hi => by
  have := h i hi
  split <;> omega)
/-- all that arrives in cells and at an end is no more than what was there -/
theorem ar_tot {n : Nat} {o : OT} (h : oOK n o) (hn : n ≤ 6) (h0 : o.1 ≠ 0) {m : Int} (hm : 0 ≤ m) (e : Int) : sumn n (fun t => arr o m t) + (if 100 ≤ e then arr o m e else 0) ≤ m := by
  have e1 : sumn n (fun t => arr o m t) = sumn o.1 (fun i => sumn n (fun t => if o.2.1 i = (t : Int) then amt o m i else 0)) := sumn_swap n o.1 (fun t i => if o.2.1 i = (t : Int) then amt o m i else 0)
  have e2 : (if 100 ≤ e then arr o m e else 0) = sumn o.1 (fun i => if 100 ≤ e then (if o.2.1 i = e then amt o m i else 0) else 0) := by
    by_cases q : 100 ≤ e
    · simp only [if_pos q]; rfl
    · simp only [if_neg q]; exact (sumn_zero _).symm
  have e3 : sumn o.1 (fun i => sumn n (fun t => if o.2.1 i = (t : Int) then amt o m i else 0)) + sumn o.1 (fun i => if 100 ≤ e then (if o.2.1 i = e then amt o m i else 0) else 0) ≤ sumn o.1 (amt o m) := by
    rw [← sumn_add]
    refine sumn_le (fun i hi => ?_)
    have a := (h.am hm hi).2
    rcases h.tgt i hi with q | q
    · have s : sumn n (fun t => if o.2.1 i = (t : Int) then amt o m i else 0) = amt o m i := by
        rw [sumn_single n (o.2.1 i).toNat _ (by omega) (fun j hj hne => if_neg (by omega))]
        exact if_pos (by omega)
      rw [s]
      by_cases q2 : 100 ≤ e
      · rw [if_pos q2, if_neg (by omega)]; omega
      · rw [if_neg q2]; omega
    · have s : sumn n (fun t => if o.2.1 i = (t : Int) then amt o m i else 0) = 0 := sumn_all0 (fun j hj => if_neg (by omega))
      rw [s]
      by_cases q2 : 100 ≤ e
      · rw [if_pos q2]; split <;> omega
      · rw [if_neg q2]; omega
  rw [e1, e2]
  rw [am_tot h0] at e3
  exact e3
theorem outs_ok {v : LV} (hv : wfL v) (p : Int) (c : Int) : oOK (v.2 0) (outs v p c) := by
  have g := outs_good hv p c
  refine ⟨fun i hi => (g i hi).1, fun i hi => ?_⟩
  rcases (g i hi).2 with q | q
  · exact Or.inl ⟨q.1, q.2.1⟩
  · exact Or.inr q
/-- nothing arrives in a cell that is not lower -/
theorem ar_low {v : LV} (hv : wfL v) (p : Int) (c : Nat) {m : Int} {t : Nat} (ht : t < nn v 0) (hu : upv v p c ≤ upv v p t) : arr (outs v p c) m t = 0 := by
  have g := outs_good hv p c
  have n0 := nn_c hv 0 (by omega)
  have l0 := hv.1
  refine sumn_all0 (fun i hi => if_neg (fun q => ?_))
  rcases (g i hi).2 with x | x
  · rw [q, show ((t : Int)).toNat = t by omega, show ((c : Int)).toNat = c by omega] at x
    omega
  · omega
def usum (n : Nat) (s : SS) : Int := sumn n (fun t => if s.1 / 2 ^ t % 2 = 0 then s.2.1 t else 0)
def spOK (v : LV) (p : Int) (k : Nat) (s : SS) : Prop := s.1 < 2 ^ nn v 0 ∧ pc6 s.1 = k ∧ (∀ c, c < nn v 0 → 0 ≤ s.2.1 c) ∧ 0 ≤ s.2.2 ∧ usum (nn v 0) s + s.2.2 ≤ 1000000 ∧ (∀ c, c < nn v 0 → s.2.1 c ≤ 1000000) ∧ ∀ a b, a < nn v 0 → b < nn v 0 → s.1 / 2 ^ a % 2 = 1 → s.1 / 2 ^ b % 2 = 0 → upv v p b ≤ upv v p a
theorem spOK.d {v : LV} {p : Int} {k : Nat} {s : SS} (h : spOK v p k s) : s.1 < 2 ^ nn v 0 := h.1
theorem spOK.pc {v : LV} {p : Int} {k : Nat} {s : SS} (h : spOK v p k s) : pc6 s.1 = k := h.2.1
theorem spOK.pos {v : LV} {p : Int} {k : Nat} {s : SS} (h : spOK v p k s) : ∀ c, c < nn v 0 → 0 ≤ s.2.1 c := h.2.2.1
theorem spOK.r0 {v : LV} {p : Int} {k : Nat} {s : SS} (h : spOK v p k s) : 0 ≤ s.2.2 := h.2.2.2.1
theorem spOK.sum {v : LV} {p : Int} {k : Nat} {s : SS} (h : spOK v p k s) : usum (nn v 0) s + s.2.2 ≤ 1000000 := h.2.2.2.2.1
theorem spOK.all {v : LV} {p : Int} {k : Nat} {s : SS} (h : spOK v p k s) : ∀ c, c < nn v 0 → s.2.1 c ≤ 1000000 := h.2.2.2.2.2.1
theorem spOK.ord {v : LV} {p : Int} {k : Nat} {s : SS} (h : spOK v p k s) : ∀ a b, a < nn v 0 → b < nn v 0 → s.1 / 2 ^ a % 2 = 1 → s.1 / 2 ^ b % 2 = 0 → upv v p b ≤ upv v p a := h.2.2.2.2.2.2
theorem us_le {n : Nat} {s : SS} (pos : ∀ c, c < n → 0 ≤ s.2.1 c) (r0 : 0 ≤ s.2.2) (sum : usum n s + s.2.2 ≤ 1000000) {c : Nat} (hc : c < n) (hd : s.1 / 2 ^ c % 2 = 0) : s.2.1 c ≤ 1000000 := by
  have a := sumn_mem (f := fun t => if s.1 / 2 ^ t % 2 = 0 then s.2.1 t else 0) hc (fun i hi => by
    have := pos i hi
    split <;> omega)
  rw [if_pos hd] at a
  unfold usum at sum
  omega
theorem step_ok {v : LV} (hv : wfL v) {p e : Int} {k : Nat} {s : SS} (h : spOK v p k s) (hk : k < nn v 0) : ∃ c, hb (upv v p) s.1 (nn v 0) = some c ∧ c < nn v 0 ∧ s.1 / 2 ^ c % 2 = 0 ∧ stepS v p e s = (s.1 + 2 ^ c, (if (outs v p c).1 = 0 then s.2.1 else fun t => if t = c then 0 else s.2.1 t + arr (outs v p c) (s.2.1 c) t), (if (outs v p c).1 = 0 then s.2.2 else s.2.2 + (if 100 ≤ e then arr (outs v p c) (s.2.1 c) e else 0))) ∧ spOK v p (k + 1) (stepS v p e s) ∧ (∀ t, t < nn v 0 → s.1 / 2 ^ t % 2 = 1 → arr (outs v p c) (s.2.1 c) t = 0) := by
  have l6 := n6 hv
  have n0 := nn_c hv 0 (by omega)
  obtain ⟨c, hc⟩ := hb_ex (upv v p) s.1 (nn v 0) (bt_ex (nn v 0) (by omega) s.1 h.d (by rw [h.pc]; exact hk))
  obtain ⟨c1, c2, c3⟩ := hb_some _ _ _ _ hc
  have st : stepS v p e s = (s.1 + 2 ^ c, (if (outs v p c).1 = 0 then s.2.1 else fun t => if t = c then 0 else s.2.1 t + arr (outs v p c) (s.2.1 c) t), (if (outs v p c).1 = 0 then s.2.2 else s.2.2 + (if 100 ≤ e then arr (outs v p c) (s.2.1 c) e else 0))) := by
    unfold stepS; rw [hc]
  obtain ⟨b1, b2, b3⟩ := bt_add (nn v 0) (by omega) c c1 s.1 h.d c2
  have lowz : ∀ t, t < nn v 0 → s.1 / 2 ^ t % 2 = 1 → arr (outs v p c) (s.2.1 c) t = 0 := fun t ht hd => ar_low hv p c ht (h.ord t c ht c1 hd c2)
  have ord' : ∀ a b, a < nn v 0 → b < nn v 0 → (s.1 + 2 ^ c) / 2 ^ a % 2 = 1 → (s.1 + 2 ^ c) / 2 ^ b % 2 = 0 → upv v p b ≤ upv v p a := by
    intro a b ha hb da db
    rw [b3 a ha] at da
    rw [b3 b hb] at db
    by_cases qb : b = c
    · rw [if_pos qb] at db; omega
    · rw [if_neg qb] at db
      by_cases qa : a = c
      · rw [qa]; exact c3 b hb db
      · rw [if_neg qa] at da; exact h.ord a b ha hb da db
  refine ⟨c, hc, c1, c2, st, ?_, lowz⟩
  rw [st]
  by_cases q : (outs v p c).1 = 0
  · simp only [if_pos q]
    refine ⟨b1, by rw [b2, h.pc], h.pos, h.r0, ?_, h.all, ord'⟩
    have le : usum (nn v 0) (s.1 + 2 ^ c, s.2.1, s.2.2) ≤ usum (nn v 0) s := sumn_le (fun t ht => by
      show (if (s.1 + 2 ^ c) / 2 ^ t % 2 = 0 then s.2.1 t else 0) ≤ _
      rw [b3 t ht]
      have := h.pos t ht
      by_cases qt : t = c
      · rw [if_pos qt, if_neg (by decide)]; split <;> omega
      · rw [if_neg qt]; exact Int.le_refl _)
    have := h.sum
    show usum (nn v 0) (s.1 + 2 ^ c, s.2.1, s.2.2) + s.2.2 ≤ 1000000
    omega
  · simp only [if_neg q]
    have ok := outs_ok hv p c
    have m0 := h.pos c c1
    have an : ∀ t : Int, 0 ≤ arr (outs v p c) (s.2.1 c) t := fun t => arz_nn (fun i hi => (ok.am m0 hi).2)
    have en := an e
    have tot := ar_tot (n := nn v 0) (by rw [n0]; exact ok) l6 q m0 e
    have pos' : ∀ t, t < nn v 0 → 0 ≤ (if t = c then 0 else s.2.1 t + arr (outs v p c) (s.2.1 c) t) := fun t ht => by
      have := h.pos t ht
      have := an t
      split <;> omega
    have r0' : 0 ≤ s.2.2 + (if 100 ≤ e then arr (outs v p c) (s.2.1 c) e else 0) := by
      have := h.r0
      split <;> omega
    have sum' : usum (nn v 0) (s.1 + 2 ^ c, (fun t => if t = c then 0 else s.2.1 t + arr (outs v p c) (s.2.1 c) t), s.2.2 + (if 100 ≤ e then arr (outs v p c) (s.2.1 c) e else 0)) + (s.2.2 + (if 100 ≤ e then arr (outs v p c) (s.2.1 c) e else 0)) ≤ 1000000 := by
      have le : usum (nn v 0) (s.1 + 2 ^ c, (fun t => if t = c then 0 else s.2.1 t + arr (outs v p c) (s.2.1 c) t), s.2.2 + (if 100 ≤ e then arr (outs v p c) (s.2.1 c) e else 0)) ≤ sumn (nn v 0) (fun t => ((if s.1 / 2 ^ t % 2 = 0 then s.2.1 t else 0) - (if t = c then s.2.1 c else 0)) + arr (outs v p c) (s.2.1 c) t) := sumn_le (fun t ht => by
        show (if (s.1 + 2 ^ c) / 2 ^ t % 2 = 0 then (if t = c then 0 else s.2.1 t + arr (outs v p c) (s.2.1 c) t) else 0) ≤ ((if s.1 / 2 ^ t % 2 = 0 then s.2.1 t else 0) - (if t = c then s.2.1 c else 0)) + arr (outs v p c) (s.2.1 c) t
        rw [b3 t ht]
        have a1 := h.pos t ht
        have a2 := an t
        by_cases qt : t = c
        · subst qt
          rw [if_pos rfl, if_neg (by decide), if_pos c2, if_pos rfl]; omega
        · rw [if_neg qt, if_neg qt, if_neg qt]
          split <;> omega)
      rw [sumn_add, sumn_sub, sumn_single (nn v 0) c (fun t => if t = c then s.2.1 c else 0) c1 (fun i _ hne => if_neg hne), if_pos rfl] at le
      have := h.sum
      unfold usum at this
      omega
    refine ⟨b1, by rw [b2, h.pc], pos', r0', sum', fun t ht => ?_, ord'⟩
    by_cases qt : t = c
    · show (if t = c then 0 else s.2.1 t + arr (outs v p c) (s.2.1 c) t) ≤ 1000000
      rw [if_pos qt]; omega
    · rcases (show s.1 / 2 ^ t % 2 = 0 ∨ s.1 / 2 ^ t % 2 = 1 by omega) with u | u
      · exact us_le pos' r0' sum' ht (by show (s.1 + 2 ^ c) / 2 ^ t % 2 = 0; rw [b3 t ht, if_neg qt]; exact u)
      · show (if t = c then 0 else s.2.1 t + arr (outs v p c) (s.2.1 c) t) ≤ 1000000
        have := h.all t ht
        rw [if_neg qt, lowz t ht u]; omega
theorem run_ok {v : LV} (hv : wfL v) {p e : Int} {c : Nat} (hc : c < nn v 0) : ∀ k, k ≤ nn v 0 → spOK v p k (runS v p e c k)
  | 0, _ => by
    have l6 := n6 hv
    refine ⟨Nat.two_pow_pos _, (by show pc6 0 = 0; decide), fun t _ => ?_, Int.le_refl _, ?_, fun t _ => ?_, fun a b _ _ h _ => ?_⟩
    · show 0 ≤ (if t = c then (1000000 : Int) else 0)
      split <;> omega
    · have e : usum (nn v 0) (runS v p e c 0) = 1000000 := by
        unfold usum runS
        rw [sumn_single (nn v 0) c _ hc (fun i _ hne => by
          show (if 0 / 2 ^ i % 2 = 0 then (if i = c then (1000000 : Int) else 0) else 0) = 0
          rw [if_neg hne]; split <;> rfl)]
        show (if 0 / 2 ^ c % 2 = 0 then (if c = c then (1000000 : Int) else 0) else 0) = 1000000
        rw [if_pos rfl, if_pos (by rw [Nat.zero_div])]
      rw [e]
      exact Int.le_refl _
    · show (if t = c then (1000000 : Int) else 0) ≤ 1000000
      split <;> omega
    · have h : 0 / 2 ^ a % 2 = 1 := h
      rw [Nat.zero_div] at h
      omega
  | k + 1, hk => by
    have ih := run_ok hv (p := p) (e := e) hc k (by omega)
    obtain ⟨x, _, _, _, _, h, _⟩ := step_ok hv (e := e) ih (by omega)
    exact h
