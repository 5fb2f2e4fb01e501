/-! returns: a small logic over the pure functions -/
def Rt (x : Option (Int × GM)) (Q : Int → GM → Prop) : Prop := ∃ r μ, x = some (r, μ) ∧ Q r μ
theorem Rt_some {r : Int} {μ : GM} {Q : Int → GM → Prop} (h : Q r μ) : Rt (some (r, μ)) Q := ⟨r, μ, rfl, h⟩
theorem Rt_ck {c : Prop} [Decidable c] {x : Option (Int × GM)} {Q : Int → GM → Prop} (hc : c) (h : Rt x Q) : Rt (ck c x) Q := by
  unfold ck; rw [if_pos hc]; exact h
theorem Rt_lt {v : Int} {k : Int → Option (Int × GM)} {Q : Int → GM → Prop} (h : Rt (k v) Q) : Rt (lt v k) Q := h
theorem Rt_lm {v : GM} {k : GM → Option (Int × GM)} {Q : Int → GM → Prop} (h : Rt (k v) Q) : Rt (lm v k) Q := h
theorem Rt_bd {x : Option (Int × GM)} {k : Int → GM → Option (Int × GM)} {Q : Int → GM → Prop} {P : Int → GM → Prop} (h : Rt x P) (h2 : ∀ r μ, P r μ → Rt (k r μ) Q) : Rt (bd x k) Q := by
  obtain ⟨r, μ, rfl, hp⟩ := h
  exact h2 r μ hp
theorem Rt_bde {x : Option (Int × GM)} {k : Int → GM → Option (Int × GM)} {Q : Int → GM → Prop} {r : Int} {μ : GM} (h : x = some (r, μ)) (h2 : Rt (k r μ) Q) : Rt (bd x k) Q := by
  subst h; exact h2
theorem Rt_if {c : Prop} [Decidable c] {x y : Option (Int × GM)} {Q : Int → GM → Prop} (h1 : c → Rt x Q) (h2 : ¬c → Rt y Q) : Rt (if c then x else y) Q := by
  by_cases h : c
  · rw [if_pos h]; exact h1 h
  · rw [if_neg h]; exact h2 h
theorem Rt_pos {c : Prop} [Decidable c] {x y : Option (Int × GM)} {Q : Int → GM → Prop} (hc : c) (h1 : Rt x Q) : Rt (if c then x else y) Q := by
  rw [if_pos hc]; exact h1
theorem Rt_neg {c : Prop} [Decidable c] {x y : Option (Int × GM)} {Q : Int → GM → Prop} (hc : ¬c) (h1 : Rt y Q) : Rt (if c then x else y) Q := by
  rw [if_neg hc]; exact h1
theorem Rt.mono {x : Option (Int × GM)} {P Q : Int → GM → Prop} (h : Rt x P) (h2 : ∀ r μ, P r μ → Q r μ) : Rt x Q := by
  obtain ⟨r, μ, e, hp⟩ := h
  exact ⟨r, μ, e, h2 r μ hp⟩
theorem Rt_loop {σ : Type} (k : Nat → Int → σ → Option (Int × GM)) (Q : Int → GM → Prop) (N : Nat) (I : Nat → σ → Prop)
    (hs : ∀ n z s, z < N → I z s → (∀ s', I (z + 1) s' → Rt (k n ((z + 1 : Nat) : Int) s') Q) → Rt (k (n + 1) (z : Int) s) Q)
    (he : ∀ n s, I N s → Rt (k (n + 1) (N : Int) s) Q) : ∀ (fuel z : Nat) (s : σ), z ≤ N → N - z < fuel → I z s → Rt (k fuel (z : Int) s) Q
  | 0, z, s, h1, h2, h3 => by omega
  | n + 1, z, s, h1, h2, h3 => by
    by_cases q : z = N
    · subst q; exact he n s h3
    · exact hs n z s (by omega) h3 (fun s' hs' => Rt_loop k Q N I hs he n (z + 1) s' (by omega) (by omega) hs')
theorem FU_eq : FU = 4999 + 1 := rfl
theorem FU_gt {a : Nat} (h : a < 5000) : a < FU := h
theorem w32s {z : Nat} (h : z < 2147483647) : w32 ((z : Int) + 1) = ((z + 1 : Nat) : Int) := by
  rw [w32_id ⟨by omega, by omega⟩]; omega
theorem w32i {x : Int} (h1 : -2147483648 ≤ x) (h2 : x ≤ 2147483647) : w32 x = x := w32_id ⟨h1, h2⟩
theorem w64i {x : Int} (h1 : -9223372036854775808 ≤ x) (h2 : x ≤ 9223372036854775807) : w64 x = x := w64_id ⟨h1, h2⟩
def ix (i j : Nat) : Int := ((6 * i + j : Nat) : Int)
theorem ix_ok {i j : Nat} (hi : i < 6) (hj : j < 6) : 0 ≤ ix i j ∧ ix i j < 36 := by unfold ix; omega
theorem ix_inj {i j a b : Nat} (hj : j < 6) (hb : b < 6) (h : ix i j = ix a b) : i = a ∧ j = b := by unfold ix at h; omega
theorem w32_6 {i j : Nat} (hi : i < 6) (hj : j < 6) : w32 (w32 (6 * (i : Int)) + (j : Int)) = ix i j := by
  unfold ix
  rw [w32i (x := 6 * (i : Int)) (by omega) (by omega), w32i (by omega) (by omega)]; omega
theorem w32_6r {i j : Nat} (hi : i < 6) (hj : j < 6) : w32 (w32 ((i : Int) * 6) + (j : Int)) = ix i j := by
  unfold ix
  rw [w32i (x := (i : Int) * 6) (by omega) (by omega), w32i (by omega) (by omega)]; omega
theorem w32_7 {i : Nat} (hi : i < 6) : w32 (7 * (i : Int)) = ix i i := by
  unfold ix
  rw [w32i (by omega) (by omega)]; omega
theorem w32_7r {i : Nat} (hi : i < 6) : w32 ((i : Int) * 7) = ix i i := by
  unfold ix
  rw [w32i (by omega) (by omega)]; omega
theorem gA_same (μ : GM) (k : Nat) (i v : Int) : (gA μ k i v).1 k i = v := if_pos ⟨rfl, rfl⟩
theorem gA_ni (μ : GM) (k : Nat) {i i' : Int} (v : Int) (h : i' ≠ i) : (gA μ k i v).1 k i' = μ.1 k i' := if_neg (fun z => h z.2)
theorem gA_nk (μ : GM) {k k' : Nat} (i v : Int) (h : k' ≠ k) : (gA μ k i v).1 k' = μ.1 k' := by
  funext i'; exact if_neg (fun z => h z.1)
theorem gA_at (μ : GM) (k : Nat) (i i' v : Int) : (gA μ k i v).1 k i' = if i' = i then v else μ.1 k i' := by
  by_cases h : i' = i
  · rw [if_pos h, h]; exact gA_same μ k i v
  · rw [if_neg h]; exact gA_ni μ k v h
theorem gA_2 (μ : GM) (k : Nat) (i v : Int) : (gA μ k i v).2 = μ.2 := rfl
theorem gF_1 (μ : GM) (k j : Nat) (v : Int) : (gF μ k j v).1 = μ.1 := rfl
theorem gF_same (μ : GM) (k j : Nat) (v : Int) : (gF μ k j v).2 k j = v := if_pos ⟨rfl, rfl⟩
theorem gF_ne (μ : GM) {k j k' j' : Nat} (v : Int) (h : ¬ (k' = k ∧ j' = j)) : (gF μ k j v).2 k' j' = μ.2 k' j' := if_neg h
def ofr (P : Nat → Prop) (F : Nat → Nat → Prop) (μ μ' : GM) : Prop := (∀ k, ¬ P k → μ'.1 k = μ.1 k) ∧ ∀ k j, ¬ F k j → μ'.2 k j = μ.2 k j
theorem ofr.rfl {P : Nat → Prop} {F : Nat → Nat → Prop} {μ : GM} : ofr P F μ μ := ⟨fun _ _ => Eq.refl _, fun _ _ _ => Eq.refl _⟩
theorem ofr.trans {P : Nat → Prop} {F : Nat → Nat → Prop} {μ ν ρ : GM} (h : ofr P F μ ν) (g : ofr P F ν ρ) : ofr P F μ ρ :=
  ⟨fun k hk => (g.1 k hk).trans (h.1 k hk), fun k j hk => (g.2 k j hk).trans (h.2 k j hk)⟩
theorem ofr.a {P : Nat → Prop} {F : Nat → Nat → Prop} {μ ν : GM} (h : ofr P F μ ν) {k : Nat} {i v : Int} (hk : P k) : ofr P F μ (gA ν k i v) :=
  ⟨fun k' hk' => (gA_nk (k := k) (k' := k') ν i v (fun z => hk' (by rw [z]; exact hk))).trans (h.1 k' hk'), h.2⟩
theorem ofr.f {P : Nat → Prop} {F : Nat → Nat → Prop} {μ ν : GM} (h : ofr P F μ ν) {k j : Nat} {v : Int} (hk : F k j) : ofr P F μ (gF ν k j v) :=
  ⟨h.1, fun k' j' hk' => (gF_ne ν v (fun z => hk' (by rw [z.1, z.2]; exact hk))).trans (h.2 k' j' hk')⟩
theorem ofr.mono {P P' : Nat → Prop} {F F' : Nat → Nat → Prop} {μ ν : GM} (h : ofr P F μ ν) (h1 : ∀ k, P k → P' k) (h2 : ∀ k j, F k j → F' k j) : ofr P' F' μ ν :=
  ⟨fun k hk => h.1 k (fun z => hk (h1 k z)), fun k j hk => h.2 k j (fun z => hk (h2 k j z))⟩
def nF : Nat → Nat → Prop := fun _ _ => False
theorem tmod_pos {x p : Int} (hx : 0 ≤ x) : x.tmod p = x % p := Int.tmod_eq_emod_of_nonneg hx
theorem tdiv_pos {x p : Int} (hx : 0 ≤ x) : x.tdiv p = x / p := Int.tdiv_eq_ediv_of_nonneg hx
