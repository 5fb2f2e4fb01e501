/-! spills: finer bounds of flows; shares -/
theorem src_low {v : LV} (hv : wfL v) (p : Int) {i : Nat} (hi : i < nn v 0) : -srcw v (nn v 4) i ≤ src v p i ∧ 0 ≤ srcw v (nn v 4) i := by
  have a := hv.2.2.2.2.2.1 i hi
  have b2 : 0 ≤ srcr v p (nn v 2) i := sumn_nn (fun r hr => by
    have h := hv.2.2.2.2.2.2.2.1 r hr
    exact Int.mul_nonneg (nb_nn _ _).1 (Int.mul_nonneg (by omega) (by split <;> omega)))
  have c2 : 0 ≤ srcd v p (nn v 3) i := sumn_nn (fun d hd => by
    have h := hv.2.2.2.2.2.2.2.2.1 d hd
    split
    · exact Int.mul_nonneg (nb_nn _ _).1 (Int.mul_nonneg (by omega) (by omega))
    · omega)
  have d2 : 0 ≤ srcw v (nn v 4) i := sumn_nn (fun w hw => by
    have h := hv.2.2.2.2.2.2.2.2.2 w hw
    exact Int.mul_nonneg (nb_nn _ _).1 (by omega))
  unfold src
  omega
theorem srcw_tot {v : LV} (hv : wfL v) : sumn (nn v 0) (fun i => srcw v (nn v 4) i) ≤ 297 := by
  have e0 := nn_c hv 0 (by omega)
  have e4 := nn_c hv 4 (by omega)
  have h4 := hv.2.2.2.2.1
  have e : sumn (nn v 0) (fun i => srcw v (nn v 4) i) = sumn (nn v 4) (fun w => sumn (nn v 0) (fun i => nb (v.1 13 w) i * v.1 16 w)) := sumn_swap (nn v 0) (nn v 4) (fun i w => nb (v.1 13 w) i * v.1 16 w)
  have d : sumn (nn v 4) (fun w => sumn (nn v 0) (fun i => nb (v.1 13 w) i * v.1 16 w)) ≤ (nn v 4 : Int) * 99 := sumn_ub (fun r hr => by
    have h := hv.2.2.2.2.2.2.2.2.2 r hr
    rw [nb_sum h.1.1 (by omega) (fun _ => v.1 16 r)]
    exact h.2.2)
  omega
theorem up_low {v : LV} (hv : wfL v) {p : Int} (hd : detv v p ≠ 0) {c : Nat} (hc : c < nn v 0) : -277576200000 ≤ upv v p c := by
  rcases adj_ex hv p with h | ⟨m, h⟩
  · exact absurd h hd
  · rw [← tops_eq hv h hc]
    have l : sumn (nn v 0) (fun i => -934600000 * srcw v (nn v 4) i) ≤ sumn (nn v 0) (fun i => m c i * src v p i) := sumn_le (fun i hi => by
      have a := h.2.2.2 c i hc hi
      have b := src_low hv p hi
      have e1 := Int.mul_le_mul_of_nonneg_left b.1 a.1
      have e2 := Int.mul_le_mul_of_nonneg_right a.2 b.2
      have e3 : m c i * -srcw v (nn v 4) i = -(m c i * srcw v (nn v 4) i) := Int.mul_neg _ _
      have e4 : -934600000 * srcw v (nn v 4) i = -(934600000 * srcw v (nn v 4) i) := Int.neg_mul _ _
      omega)
    rw [sumn_mul] at l
    have t : sumn (nn v 0) (srcw v (nn v 4)) ≤ 297 := srcw_tot hv
    omega
theorem mul_up {e x B : Int} (h0 : 0 ≤ e) (h9 : e ≤ 9) (hx : x ≤ B) (hB : 0 ≤ B) : e * x ≤ 9 * B := Int.le_trans (Int.mul_le_mul_of_nonneg_left hx h0) (Int.mul_le_mul_of_nonneg_right h9 hB)
theorem flo_f {v : LV} (hv : wfL v) {p : Int} (hr : isR v p) {l : Nat} (hl : l < nn v 1) : -390000000000000 ≤ flo v p l ∧ flo v p l ≤ 390000000000000 := by
  have h := hv.2.2.2.2.2.2.1 l hl
  have n0 := nn_c hv 0 (by omega)
  have a := up_range hv hr.1 (c := (v.1 3 l).toNat) (by omega)
  have b := up_range hv hr.1 (c := (v.1 4 l).toNat) (by omega)
  have a2 := up_low hv hr.1 (c := (v.1 3 l).toNat) (by omega)
  have b2 := up_low hv hr.1 (c := (v.1 4 l).toNat) (by omega)
  have m := mul_sm (a := v.1 5 l) (A := 9) (b := upv v p (v.1 3 l).toNat - upv v p (v.1 4 l).toNat) (B := 43167304800000) (by omega) (by omega) (by omega) (by omega)
  unfold flo
  omega
theorem giv_f {v : LV} (hv : wfL v) {p : Int} (hr : isR v p) {r : Nat} (hl : r < nn v 2) : -giv v p r ≤ 390000000000000 := by
  have h := hv.2.2.2.2.2.2.2.1 r hl
  have n0 := nn_c hv 0 (by omega)
  have a := up_range hv hr.1 (c := (v.1 6 r).toNat) (by omega)
  have d := det_pos hv hr
  have m1 := Int.mul_nonneg (show 0 ≤ v.1 7 r by omega) (show 0 ≤ detv v p by omega)
  have m2 := Int.mul_le_mul_of_nonneg_right h.2.1.2.1 (show 0 ≤ detv v p by omega)
  have m := mul_up (e := v.1 9 r) (x := (if bt p r then upv v p (v.1 6 r).toNat else v.1 8 r * detv v p) - v.1 7 r * detv v p) (B := 42889728600000) (by omega) (by omega) (by split <;> omega) (by omega)
  have e : -giv v p r = v.1 9 r * ((if bt p r then upv v p (v.1 6 r).toNat else v.1 8 r * detv v p) - v.1 7 r * detv v p) := by
    unfold giv
    rw [← Int.mul_neg]
    congr 1
    omega
  omega
theorem tak_f {v : LV} (hv : wfL v) {p : Int} (hr : isR v p) {d : Nat} (hl : d < nn v 3) : tak v p d ≤ 390000000000000 := by
  have h := hv.2.2.2.2.2.2.2.2.1 d hl
  have n0 := nn_c hv 0 (by omega)
  have a := up_range hv hr.1 (c := (v.1 10 d).toNat) (by omega)
  have dd := det_pos hv hr
  have m1 := Int.mul_nonneg (show 0 ≤ v.1 11 d by omega) (show 0 ≤ detv v p by omega)
  have m := mul_up (e := v.1 12 d) (x := upv v p (v.1 10 d).toNat - v.1 11 d * detv v p) (B := 42889728600000) (by omega) (by omega) (by omega) (by omega)
  unfold tak
  split <;> omega
def oSf (o : OT) : Prop := ∀ i, i < o.1 → 0 < o.2.2 i ∧ o.2.2 i ≤ 390000000000000
theorem addO_sf {o : OT} (h : oSf o) {t f : Int} (hf : f ≤ 390000000000000) : oSf (addO o t f) := by
  unfold addO
  by_cases q : 0 < f
  · rw [if_pos q]
    intro i hi
    have hi2 : i < o.1 + 1 := hi
    show 0 < (if i = o.1 then f else o.2.2 i) ∧ (if i = o.1 then f else o.2.2 i) ≤ _
    by_cases e : i = o.1
    · rw [if_pos e]; exact ⟨q, hf⟩
    · rw [if_neg e]; exact h i (by omega)
  · rw [if_neg q]; exact h
theorem outs_sf {v : LV} (hv : wfL v) {p : Int} (hr : isR v p) (c : Int) : oSf (outs v p c) := by
  have d := det_pos hv hr
  have gL : ∀ z, z ≤ nn v 1 → oSf (oL v p c z) := by
    intro z
    induction z with
    | zero => intro _ i hi; exact absurd hi (by show ¬ i < 0; omega)
    | succ z ih =>
      intro hz
      have g := ih (by omega)
      have fb := flo_f hv hr (l := z) (by omega)
      unfold oL
      split
      · exact addO_sf g (by omega)
      · split
        · exact addO_sf g (by omega)
        · exact g
  have gR : ∀ z, z ≤ nn v 2 → oSf (oR v p c z) := by
    intro z
    induction z with
    | zero => intro _; exact gL _ (Nat.le_refl _)
    | succ z ih =>
      intro hz
      have fb := giv_f hv hr (r := z) (by omega)
      unfold oR
      split
      · exact addO_sf (ih (by omega)) (by omega)
      · exact ih (by omega)
  have gD : ∀ z, z ≤ nn v 3 → oSf (oD v p c z) := by
    intro z
    induction z with
    | zero => intro _; exact gR _ (Nat.le_refl _)
    | succ z ih =>
      intro hz
      have fb := tak_f hv hr (d := z) (by omega)
      unfold oD
      split
      · exact addO_sf (ih (by omega)) (by omega)
      · exact ih (by omega)
  have gW : ∀ z, z ≤ nn v 4 → oSf (oW v p c z) := by
    intro z
    induction z with
    | zero => intro _; exact gD _ (Nat.le_refl _)
    | succ z ih =>
      intro hz
      have h := hv.2.2.2.2.2.2.2.2.2 z (by omega)
      have m := mul_sm (a := v.1 16 z) (A := 99) (b := detv v p) (B := 6780000000) (by omega) (by omega) (by omega) (by omega)
      unfold oW
      split
      · exact addO_sf (ih (by omega)) (by omega)
      · exact ih (by omega)
  exact gW _ (Nat.le_refl _)
theorem tot_f {v : LV} (hv : wfL v) {p : Int} (hr : isR v p) (c : Int) : ∀ z, z ≤ (outs v p c).1 → 0 ≤ sumn z (outs v p c).2.2 ∧ sumn z (outs v p c).2.2 ≤ 7800000000000000 := by
  intro z hz
  have hl := outs_len hv p c
  have sm := outs_sf hv hr c
  have a := sumn_pb (f := (outs v p c).2.2) (b := 390000000000000) (by omega) (n := z) (fun i hi => by have := sm i (by omega); omega)
  have b : (z : Int) ≤ 20 := by omega
  have e := Int.mul_le_mul_of_nonneg_right b (show (0 : Int) ≤ 390000000000000 by omega)
  omega
theorem sumn_pre {f : Nat → Int} : ∀ {n z : Nat}, z ≤ n → (∀ i, i < n → 0 ≤ f i) → sumn z f ≤ sumn n f
  | 0, z, h, _ => by rw [show z = 0 by omega]; exact Int.le_refl _
  | n + 1, z, h, g => by
    by_cases q : z = n + 1
    · rw [q]; exact Int.le_refl _
    · have a := sumn_pre (n := n) (z := z) (by omega) (fun i hi => g i (by omega))
      have b := g n (by omega)
      show _ ≤ sumn n f + f n
      omega
theorem sumn_mem {f : Nat → Int} {n i : Nat} (hi : i < n) (g : ∀ i, i < n → 0 ≤ f i) : f i ≤ sumn n f := by
  have a := sumn_pre (f := f) (n := n) (z := i + 1) (by omega) g
  have b : 0 ≤ sumn i f := sumn_nn (fun j hj => g j (by omega))
  have c : sumn (i + 1) f = sumn i f + f i := rfl
  omega
/-! shares by flow -/
theorem shr_amt : ∀ k : Nat, k < 32 → ((Int32.ofInt (k : Int) &&& 31).toBitVec.smod 32).toNat = k := by decide +kernel
theorem gshr_div {x : Int} (h0 : 0 ≤ x) (h1 : x < 2147483648) {k : Nat} (hk : k < 32) : gshr x (k : Int) = x / 2 ^ k := by
  unfold gshr
  rw [Int32.toInt, Int32.toBitVec_shiftRight, BitVec.toInt_sshiftRight', shr_amt k hk]
  show (Int32.ofInt x).toInt >>> k = _
  rw [Int32.toInt_ofInt_of_le (by omega) (by omega), Int.shiftRight_eq_div_pow]
  rfl
theorem gand1 {x : Int} (h0 : 0 ≤ x) (h1 : x < 2147483648) : gand x 1 = x % 2 := by
  unfold gand
  rw [Int32.toInt, Int32.toBitVec_and, Int32.toBitVec_ofInt, Int32.toBitVec_ofInt]
  have e : (BitVec.ofInt 32 x &&& BitVec.ofInt 32 1).toNat = x.toNat % 2 := by
    rw [BitVec.toNat_and, BitVec.toNat_ofInt]
    show (x % 4294967296).toNat &&& 1 = _
    rw [Nat.and_one_is_mod]; omega
  rw [BitVec.toInt_eq_toNat_of_lt (by rw [e]; omega), e]
  omega
theorem gbitn {m j : Nat} (hm : m < 2147483648) (hj : j < 32) : gand (gshr (m : Int) (j : Int)) 1 = ((m / 2 ^ j % 2 : Nat) : Int) := by
  have le : m / 2 ^ j ≤ m := Nat.div_le_self _ _
  have e : (m : Int) / 2 ^ j = ((m / 2 ^ j : Nat) : Int) := by rw [Int.natCast_ediv, Int.natCast_pow]; rfl
  rw [gshr_div (by omega) (by omega) hj, e]
  generalize m / 2 ^ j = X at le ⊢
  rw [gand1 (by omega) (by omega)]
  omega
theorem mf_b {m f T : Int} (h0 : 0 ≤ m) (hf : 0 ≤ f) (hT : f ≤ T) (h1 : 1 ≤ T) : 0 ≤ m * f / T ∧ m * f / T ≤ m :=
  ⟨Int.ediv_nonneg (Int.mul_nonneg h0 hf) (by omega), Int.ediv_le_of_le_mul (by omega) (Int.mul_le_mul_of_nonneg_left hT h0)⟩
theorem shr_split {m f T : Int} (hT : 0 < T) : f * (m / 1000) / T * 1000 + (f * (m / 1000) % T * 1000 + f * (m % 1000)) / T = m * f / T := by
  have e1 : m * f = (f * (m / 1000) % T * 1000 + f * (m % 1000)) + T * (f * (m / 1000) / T * 1000) := by
    have a := Int.mul_ediv_add_emod (f * (m / 1000)) T
    have b := Int.mul_ediv_add_emod m 1000
    generalize f * (m / 1000) / T = x at a ⊢
    generalize f * (m / 1000) % T = y at a ⊢
    generalize m / 1000 = q at a b ⊢
    generalize m % 1000 = r at a b ⊢
    subst b
    grind
  rw [e1, Int.add_mul_ediv_left _ _ (by omega)]
  omega
theorem cshare {m f T : Int} {μ : GM} (h0 : 0 ≤ m) (h1 : m ≤ 1000000) (hf : 0 ≤ f) (hfB : f ≤ 390000000000000) (hT : f ≤ T) (hT1 : 1 ≤ T) (hTB : T ≤ 7800000000000000) : f_X8_shareByFlow m f T μ = some (m * f / T, μ) := by
  have b1 := mul_mono (a := f) (b := 390000000000000) (c := m / 1000) (d := 1000) hfB (by omega) (by omega) (by omega)
  have b2 := Int.mul_nonneg hf (show 0 ≤ m / 1000 by omega)
  have b3 := mul_mono (a := f) (b := 390000000000000) (c := m % 1000) (d := 999) hfB (by omega) (by omega) (by omega)
  have b4 := Int.mul_nonneg hf (show 0 ≤ m % 1000 by omega)
  have c1 := Int.emod_nonneg (f * (m / 1000)) (show T ≠ 0 by omega)
  have c2 := Int.emod_lt_of_pos (f * (m / 1000)) (show 0 < T by omega)
  have d1 : 0 ≤ f * (m / 1000) / T := Int.ediv_nonneg b2 (by omega)
  have d2 : f * (m / 1000) / T ≤ 1000 := Int.ediv_le_of_le_mul (by omega) (by
    have := mul_mono (a := f) (b := T) (c := m / 1000) (d := 1000) hT (by omega) (by omega) (by omega)
    omega)
  have d3 : 0 ≤ (f * (m / 1000) % T * 1000 + f * (m % 1000)) / T := Int.ediv_nonneg (by omega) (by omega)
  have sp := shr_split (m := m) (f := f) (T := T) (by omega)
  have mb := mf_b h0 hf hT hT1
  unfold f_X8_shareByFlow lt
  rw [if_neg (by omega), ck_pos (by decide), tdiv_pos h0, tmod_pos h0]
  dsimp only
  rw [w32i (x := m / 1000) (by omega) (by omega), w64i (x := f * (m / 1000)) (by omega) (by omega), ck_pos (by omega), ck_pos (by decide), tmod_pos b2, tdiv_pos b2, w64i (x := f * (m / 1000) % T * 1000) (by omega) (by omega), w64i (x := f * (m % 1000)) (by omega) (by omega), w64i (x := f * (m / 1000) % T * 1000 + f * (m % 1000)) (by omega) (by omega), ck_pos (by omega), ck_pos (by omega), tdiv_pos (x := f * (m / 1000) % T * 1000 + f * (m % 1000)) (by omega), w64i (x := f * (m / 1000) / T) (by omega) (by omega), w64i (x := f * (m / 1000) / T * 1000) (by omega) (by omega), w64i (x := (f * (m / 1000) % T * 1000 + f * (m % 1000)) / T) (by omega) (by omega), sp, w64i (by omega) (by omega), w32i (by omega) (by omega)]
theorem mshare {m : Nat} {f T : Int} {μ : GM} (h1 : m ≤ 1000000) (hf : 0 ≤ f) (hfB : f ≤ 390000000000000) (hT : f ≤ T) (hT1 : 1 ≤ T) (hTB : T ≤ 7800000000000000) : ∀ (j fu : Nat) (w r : Int), j ≤ 21 → j < fu → w = ((m / 2 ^ j : Nat) : Int) * f / T → r = ((m / 2 ^ j : Nat) : Int) * f % T → k_X12_shareOf_10 fu (m : Int) f T w r ((j : Int) - 1) μ = some ((m : Int) * f / T, μ)
  | _, 0, w, r, a, b, e1, e2 => by omega
  | 0, fu + 1, w, r, a, b, e1, e2 => by
    rw [Nat.pow_zero, Nat.div_one] at e1
    have mb := mf_b (m := (m : Int)) (by omega) hf hT hT1
    rw [k_X12_shareOf_10, if_pos (by omega), e1, w32i (by omega) (by omega)]
  | j + 1, fu + 1, w, r, a, b, e1, e2 => by
    have le : m / 2 ^ j ≤ m := Nat.div_le_self _ _
    have hh : m / 2 ^ (j + 1) = m / 2 ^ j / 2 := by rw [Nat.pow_succ, Nat.div_div_eq_div_mul]
    rw [hh] at e1 e2
    obtain ⟨M, hM⟩ : ∃ M, M = m / 2 ^ j := ⟨_, rfl⟩
    have gb := gbitn (m := m) (j := j) (by omega) (by omega)
    rw [← hM] at e1 e2 gb le
    have c1 := Int.emod_nonneg (((M / 2 : Nat) : Int) * f) (show T ≠ 0 by omega)
    have c2 := Int.emod_lt_of_pos (((M / 2 : Nat) : Int) * f) (show 0 < T by omega)
    have mb := mf_b (m := ((M / 2 : Nat) : Int)) (by omega) hf hT hT1
    have mb2 := mf_b (m := ((M : Nat) : Int)) (by omega) hf hT hT1
    have key : ∀ b : Int, (M : Int) = 2 * ((M / 2 : Nat) : Int) + b → 0 ≤ b → b ≤ 1 → (M : Int) * f / T = 2 * w + (2 * r + b * f) / T ∧ (M : Int) * f % T = (2 * r + b * f) % T := by
      intro b eb _ _
      have s := Int.mul_ediv_add_emod (((M / 2 : Nat) : Int) * f) T
      rw [← e1, ← e2] at s
      have e : (M : Int) * f = (2 * r + b * f) + T * (2 * w) := by
        rw [eb]
        generalize ((M / 2 : Nat) : Int) = y at s ⊢
        grind
      rw [e, Int.add_mul_ediv_left _ _ (by omega), Int.add_mul_emod_self_left]
      exact ⟨by omega, rfl⟩
    have go : ∀ s1 b : Int, s1 = b * f → (M : Int) = 2 * ((M / 2 : Nat) : Int) + b → 0 ≤ b → b ≤ 1 → k_X12_shareOf_36 (k_X12_shareOf_10 fu) (m : Int) f T w (j : Int) (w64 (2 * r)) s1 μ = some ((m : Int) * f / T, μ) := by
      intro s1 b es eb hb0 hb1
      obtain ⟨k1, k2⟩ := key b eb hb0 hb1
      have bf0 : 0 ≤ b * f := Int.mul_nonneg hb0 hf
      have bf1 : b * f ≤ f := by
        rcases (show b = 0 ∨ b = 1 by omega) with y | y <;> subst y <;> omega
      have q0 : 0 ≤ (2 * r + b * f) / T := Int.ediv_nonneg (by omega) (by omega)
      unfold k_X12_shareOf_36 lt
      dsimp only
      rw [es, w64i (x := 2 * r) (by omega) (by omega), w64i (x := 2 * r + b * f) (by omega) (by omega), ck_pos (by omega), ck_pos (by omega), tdiv_pos (by omega), tmod_pos (by omega), w64i (x := 2 * w) (by omega) (by omega), w64i (x := (2 * r + b * f) / T) (by omega) (by omega), w64i (x := 2 * w + (2 * r + b * f) / T) (by omega) (by omega), show (j : Int) + -1 = (j : Int) - 1 by omega, w32i (x := (j : Int) - 1) (by omega) (by omega)]
      exact mshare h1 hf hfB hT hT1 hTB j fu _ _ (by omega) (by omega) (by rw [← hM]; exact k1.symm) (by rw [← hM]; exact k2.symm)
    rw [k_X12_shareOf_10, show ((j + 1 : Nat) : Int) - 1 = (j : Int) by omega, if_neg (by omega), gb]
    by_cases q : M % 2 = 1
    · rw [if_pos (by omega)]
      exact go f 1 (by omega) (by omega) (by omega) (by omega)
    · rw [if_neg (by omega)]
      exact go 0 0 (by omega) (by omega) (by omega) (by omega)
theorem mshare0 {m : Nat} {f T : Int} {μ : GM} (h1 : m ≤ 1000000) (hf : 0 ≤ f) (hfB : f ≤ 390000000000000) (hT : f ≤ T) (hT1 : 1 ≤ T) (hTB : T ≤ 7800000000000000) : f_X12_shareOf (m : Int) f T μ = some ((m : Int) * f / T, μ) := by
  unfold f_X12_shareOf
  have z : m / 2 ^ 21 = 0 := Nat.div_eq_of_lt (by omega)
  have := mshare (μ := μ) h1 hf hfB hT hT1 hTB 21 FU 0 0 (Nat.le_refl _) (FU_gt (by omega)) (by rw [z]; simp) (by rw [z]; simp)
  exact this
