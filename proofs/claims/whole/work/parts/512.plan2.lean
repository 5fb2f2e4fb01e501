/-! plans: the other side -/
theorem veq_pl {v : LV} {f : Int → Int} {μ s : GM} (h : mV 59 70 μ = v) (hv : wfL v) (o : ofr PM FM μ s) (h72 : ∀ l : Nat, l < 12 → s.1 72 l = μ.1 59 l) (e : ∀ w : Nat, w < nn v 4 → s.1 73 w = f w) : veq (wrt v f) (mV 72 73 s) := by
  have l1 := hv.2.1
  have n1 := nn_c hv 1 (by omega)
  have A : ∀ k, 54 ≤ k → k < 71 → s.1 k = μ.1 k := fun k h1 h2 => o.1 k (by unfold PM; omega)
  have F : ∀ j, j = 1 ∨ j = 5 ∨ j = 9 ∨ j = 14 ∨ j = 18 → s.2 53 j = μ.2 53 j := fun j hj => o.2 53 j (by unfold FM; omega)
  subst h
  refine ⟨fun j h1 h2 => ?_, ?_, fun k hk => ?_, fun k hk => (e k hk).symm⟩
  · match j, h1, h2 with
    | 0, _, _ => exact (A 54 (by omega) (by omega)).symm
    | 1, _, _ => exact (A 55 (by omega) (by omega)).symm
    | 2, _, _ => exact (A 56 (by omega) (by omega)).symm
    | 3, _, _ => exact (A 57 (by omega) (by omega)).symm
    | 4, _, _ => exact (A 58 (by omega) (by omega)).symm
    | 5, _, z => exact absurd rfl z
    | 6, _, _ => exact (A 60 (by omega) (by omega)).symm
    | 7, _, _ => exact (A 61 (by omega) (by omega)).symm
    | 8, _, _ => exact (A 62 (by omega) (by omega)).symm
    | 9, _, _ => exact (A 63 (by omega) (by omega)).symm
    | 10, _, _ => exact (A 64 (by omega) (by omega)).symm
    | 11, _, _ => exact (A 65 (by omega) (by omega)).symm
    | 12, _, _ => exact (A 66 (by omega) (by omega)).symm
    | 13, _, _ => exact (A 67 (by omega) (by omega)).symm
    | 14, _, _ => exact (A 68 (by omega) (by omega)).symm
    | 15, _, _ => exact (A 69 (by omega) (by omega)).symm
    | j + 16, h, _ => omega
  · refine funext (fun j => ?_)
    match j with
    | 0 => exact (F 1 (by omega)).symm
    | 1 => exact (F 5 (by omega)).symm
    | 2 => exact (F 9 (by omega)).symm
    | 3 => exact (F 14 (by omega)).symm
    | j + 4 => exact (F 18 (by omega)).symm
  · have hk : k < nn (mV 59 70 μ) 1 := hk
    exact (h72 k (by omega)).symm
theorem drw {z : Nat} (hz : z < 125) {μ : GM} : ∀ (j f : Nat) (s : GM), j ≤ 3 → j < f → ofr P73 nF μ s → (∀ w : Nat, j ≤ w → w < 3 → s.1 73 w = w32 (Int.tdiv (w32 (μ.1 68 w * ((z / 5 ^ (2 - w) % 5 : Nat) : Int))) 4)) → Rt (k_X12_draws_4 f ((z / 5 ^ (3 - j) : Nat) : Int) ((j : Int) - 1) s) (fun _ s' => ofr P73 nF μ s' ∧ ∀ w : Nat, w < 3 → s'.1 73 w = w32 (Int.tdiv (w32 (μ.1 68 w * ((z / 5 ^ (2 - w) % 5 : Nat) : Int))) 4))
  | _, 0, s, h1, h2, o, e => by omega
  | 0, f + 1, s, h1, h2, o, e => by
    rw [k_X12_draws_4]
    exact Rt_pos (by omega) (Rt_some ⟨o, fun w hw => e w (by omega) hw⟩)
  | j + 1, f + 1, s, h1, h2, o, e => by
    have le : z / 5 ^ (3 - (j + 1)) ≤ z := Nat.div_le_self _ _
    have p5 := pow5 (n := 3) (j := j) (by omega) z
    obtain ⟨X, hX⟩ : ∃ X : Nat, X = z / 5 ^ (3 - (j + 1)) := ⟨_, rfl⟩
    obtain ⟨Y, hY⟩ : ∃ Y : Nat, Y = z / 5 ^ (3 - j) := ⟨_, rfl⟩
    rw [← hX] at le p5 ⊢
    rw [← hY] at p5
    have el : Int.tmod (X : Int) 5 = ((z / 5 ^ (2 - j) % 5 : Nat) : Int) := by
      rw [tmod_pos (by omega), show 2 - j = 3 - (j + 1) by omega, ← hX]
      omega
    have ed : w32 (Int.tdiv (X : Int) 5) = (Y : Int) := by
      rw [tdiv_pos (by omega), w32i (by omega) (by omega), ← p5]
      omega
    rw [k_X12_draws_4, show ((j + 1 : Nat) : Int) - 1 = (j : Int) by omega, el, ed, o.1 68 (by unfold P73; omega)]
    refine Rt_neg (by omega) (Rt_ck (by omega) (Rt_ck (by decide) (Rt_ck (by decide) (Rt_ck (by omega) (Rt_lm (Rt_ck (by decide) (Rt_lt (Rt_lt ?_))))))))
    rw [show (j : Int) + -1 = (j : Int) - 1 by omega, w32i (x := (j : Int) - 1) (by omega) (by omega)]
    rw [hY]
    refine drw hz j f _ (by omega) (by omega) (o.a rfl) (fun w h3 h4 => ?_)
    rw [gA_at]
    by_cases q : (w : Int) = j
    · have : w = j := by omega
      subst this
      rw [if_pos rfl]
    · rw [if_neg q]; exact e w (by omega) h4
theorem dig_eq {n w : Nat} (hn : n ≤ 3) (hw : w < n) (k : Nat) : 5 ^ (3 - n) * k / 5 ^ (2 - w) % 5 = lvn n w k := by
  rcases (show (n = 1 ∧ w = 0) ∨ (n = 2 ∧ w = 0) ∨ (n = 2 ∧ w = 1) ∨ (n = 3 ∧ w = 0) ∨ (n = 3 ∧ w = 1) ∨ (n = 3 ∧ w = 2) by omega) with ⟨a, b⟩ | ⟨a, b⟩ | ⟨a, b⟩ | ⟨a, b⟩ | ⟨a, b⟩ | ⟨a, b⟩ <;> subst a <;> subst b
  · show 25 * k / 25 % 5 = k / 1 % 5; omega
  · show 5 * k / 25 % 5 = k / 5 % 5; omega
  · show 5 * k / 5 % 5 = k / 1 % 5; omega
  · show 1 * k / 25 % 5 = k / 25 % 5; omega
  · show 1 * k / 5 % 5 = k / 5 % 5; omega
  · show 1 * k / 1 % 5 = k / 1 % 5; omega
theorem drawM {v : LV} (hv : wfL v) (hx : wfX v) {z k : Nat} (hz : z < 125) (ek : z = 5 ^ (3 - nn v 4) * k) {s : GM} (e68 : s.1 68 = v.1 14) : Rt (f_X12_draws (z : Int) s) (fun _ s' => ofr P73 nF s s' ∧ ∀ w : Nat, w < nn v 4 → s'.1 73 w = rtn v k w) := by
  have n4 := nn_c hv 4 (by omega)
  have w4 := hv.2.2.2.2.1
  unfold f_X12_draws
  have := drw hz (μ := s) 3 FU s (Nat.le_refl _) (FU_gt (by omega)) ofr.rfl (fun w h1 h2 => by omega)
  rw [Nat.sub_self, Nat.pow_zero, Nat.div_one, show ((3 : Nat) : Int) - 1 = 2 by rfl] at this
  refine this.mono (fun _ s' ⟨o, e⟩ => ⟨o, fun w hw => ?_⟩)
  have cb := cap_b (hx.2.1 w hw).1 (lvn_lt (nn v 4) w k)
  rw [e w (by omega), ek, dig_eq (by omega) hw k, e68, w32i (x := v.1 14 (w : Int) * ((lvn (nn v 4) w k : Nat) : Int)) (by omega) (by omega), tdiv_pos (by omega), w32i (by omega) (by omega), rtn_at hv k hw]
def cd (n z : Nat) : Nat := (z + 5 ^ (3 - n) - 1) / 5 ^ (3 - n)
theorem cd_y : ∀ n : Nat, n < 4 → ∀ z : Nat, z < 125 → z % 5 ^ (3 - n) = 0 → cd n z = z / 5 ^ (3 - n) ∧ cd n (z + 1) = z / 5 ^ (3 - n) + 1 ∧ z = 5 ^ (3 - n) * (z / 5 ^ (3 - n)) ∧ z / 5 ^ (3 - n) < 5 ^ n := by decide +kernel
theorem cd_n : ∀ n : Nat, n < 4 → ∀ z : Nat, z < 125 → z % 5 ^ (3 - n) ≠ 0 → cd n (z + 1) = cd n z := by decide +kernel
theorem cd_e : ∀ n : Nat, n < 4 → cd n 125 = 5 ^ n ∧ cd n 0 = 0 := by decide +kernel
theorem pl45 {f : Nat} {a : Int} {z n : Nat} {s : GM} {Q : Int → GM → Prop} (e18 : s.2 53 18 = (n : Int)) (hn : n < 4) (hz : z < 125) (H1 : z % 5 ^ (3 - n) = 0 → Rt (k_X12_plan_99 (k_X12_plan_45 f) a (z : Int) 1 s) Q) (H0 : z % 5 ^ (3 - n) ≠ 0 → Rt (k_X12_plan_45 f a ((z + 1 : Nat) : Int) s) Q) : Rt (k_X12_plan_45 (f + 1) a (z : Int) s) Q := by
  have d1 : Int.tmod (w32 (Int.tdiv (z : Int) 5)) 5 = (z : Int) / 5 % 5 := by rw [tdiv_pos (by omega), w32i (by omega) (by omega), tmod_pos (by omega)]
  have d2 : Int.tmod (z : Int) 5 = (z : Int) % 5 := tmod_pos (by omega)
  have n98 : z % 5 ^ (3 - n) ≠ 0 → Rt (k_X12_plan_98 (k_X12_plan_45 f) a (z : Int) s) Q := by
    intro q
    unfold k_X12_plan_98 k_X12_plan_99
    refine Rt_pos rfl (Rt_lt ?_)
    rw [w32s (by omega)]
    exact H0 q
  rw [k_X12_plan_45, e18]
  refine Rt_pos (by omega) ?_
  unfold k_X12_plan_64 k_X12_plan_80
  rw [e18, d1, d2]
  rcases (show n = 0 ∨ n = 1 ∨ n = 2 ∨ n = 3 by omega) with y | y | y | y <;> subst y
  · have H1 : z % 125 = 0 → Rt (k_X12_plan_99 (k_X12_plan_45 f) a (z : Int) 1 s) Q := H1
    have n98 : z % 125 ≠ 0 → Rt (k_X12_plan_98 (k_X12_plan_45 f) a (z : Int) s) Q := n98
    exact Rt_neg (by omega) (Rt_if (fun c1 => Rt_neg (by omega) (Rt_ck (by decide) (Rt_ck (by decide) (Rt_if (fun c2 => Rt_neg (by omega) (Rt_ck (by decide) (Rt_if (fun c3 => H1 (by omega)) (fun c3 => n98 (by omega))))) (fun c2 => n98 (by omega)))))) (fun c1 => n98 (by omega)))
  · have H1 : z % 25 = 0 → Rt (k_X12_plan_99 (k_X12_plan_45 f) a (z : Int) 1 s) Q := H1
    have n98 : z % 25 ≠ 0 → Rt (k_X12_plan_98 (k_X12_plan_45 f) a (z : Int) s) Q := n98
    exact Rt_pos (by omega) (Rt_neg (by omega) (Rt_ck (by decide) (Rt_ck (by decide) (Rt_if (fun c2 => Rt_neg (by omega) (Rt_ck (by decide) (Rt_if (fun c3 => H1 (by omega)) (fun c3 => n98 (by omega))))) (fun c2 => n98 (by omega))))))
  · have H1 : z % 5 = 0 → Rt (k_X12_plan_99 (k_X12_plan_45 f) a (z : Int) 1 s) Q := H1
    have n98 : z % 5 ≠ 0 → Rt (k_X12_plan_98 (k_X12_plan_45 f) a (z : Int) s) Q := n98
    exact Rt_pos (by omega) (Rt_pos (by omega) (Rt_neg (by omega) (Rt_ck (by decide) (Rt_if (fun c3 => H1 (by omega)) (fun c3 => n98 (by omega))))))
  · have H1 : z % 1 = 0 → Rt (k_X12_plan_99 (k_X12_plan_45 f) a (z : Int) 1 s) Q := H1
    exact Rt_pos (by omega) (Rt_pos (by omega) (Rt_pos (by omega) (H1 (by omega))))
theorem pl118 {v : LV} (hv : wfL v) (hx : wfX v) {k : Nat} {s : GM} {kL : Int → Int → GM → Option (Int × GM)} {a z : Int} {Q : Int → GM → Prop} (e18 : s.2 53 18 = v.2 4) (e69 : s.1 69 = v.1 15) (e : ∀ w : Nat, w < nn v 4 → s.1 73 w = rtn v k w)
    (H1 : (s.2 53 50 = -10000009 ∨ s.2 53 50 < gan v k ∨ (gan v k = s.2 53 50 ∧ rsmm v k < s.2 53 51)) → Rt (k_X12_plan_201 kL a z (gan v k) (rsmm v k) s) Q) (H0 : ¬ (s.2 53 50 = -10000009 ∨ s.2 53 50 < gan v k ∨ (gan v k = s.2 53 50 ∧ rsmm v k < s.2 53 51)) → Rt (kL a (w32 (z + 1)) s) Q) : Rt (k_X12_plan_118 kL FU a z 0 0 0 s) Q := by
  have n4 := nn_c hv 4 (by omega)
  have w4 := hv.2.2.2.2.1
  refine Rt_loop (σ := Int × Int) (fun f y t => k_X12_plan_118 kL f a z t.1 t.2 y s) Q (nn v 4) (fun y t => t.1 = sumn y (fun w => rtn v k w * v.1 15 w) ∧ t.2 = sumn y (fun w => rtn v k w)) ?_ ?_ FU 0 (0, 0) (by omega) (FU_gt (by omega)) ⟨rfl, rfl⟩
  · intro f y ⟨t1, t2⟩ hy ⟨a1, a2⟩ hnext
    have a1 : t1 = sumn y (fun w => rtn v k w * v.1 15 w) := a1
    have a2 : t2 = sumn y (fun w => rtn v k w) := a2
    show Rt (k_X12_plan_118 kL (f + 1) a z t1 t2 (y : Int) s) Q
    have b := gan_b hv hx k (z := y) (by omega)
    have t := gan_t hv hx k hy
    have b' := rsm_b hv hx k (z := y) (by omega)
    have t' := rtn_b hv hx k hy
    rw [k_X12_plan_118, e18]
    refine Rt_pos (by omega) (Rt_ck (by omega) (Rt_ck (by omega) (Rt_lt (Rt_ck (by omega) (Rt_lt (Rt_lt ?_))))))
    rw [e y hy, e69, a1, a2, w32i (x := rtn v k y * v.1 15 y) (by omega) (by omega), w32i (x := sumn y (fun w => rtn v k w * v.1 15 w) + rtn v k y * v.1 15 y) (by omega) (by omega), w32i (x := sumn y (fun w => rtn v k w) + rtn v k y) (by omega) (by omega), w32s (by omega)]
    exact hnext (sumn y (fun w => rtn v k w * v.1 15 w) + rtn v k y * v.1 15 y, sumn y (fun w => rtn v k w) + rtn v k y) ⟨rfl, rfl⟩
  · intro f ⟨t1, t2⟩ ⟨a1, a2⟩
    have a1 : t1 = gan v k := a1
    have a2 : t2 = rsmm v k := a2
    show Rt (k_X12_plan_118 kL (f + 1) a z t1 t2 ((nn v 4 : Nat) : Int) s) Q
    rw [k_X12_plan_118, e18, a1, a2]
    refine Rt_neg (by omega) (Rt_if (fun c1 => H1 (Or.inl c1)) (fun c1 => Rt_if (fun c2 => H1 (Or.inr (Or.inl c2))) (fun c2 => Rt_if (fun c3 => Rt_if (fun c4 => H1 (Or.inr (Or.inr ⟨c3, c4⟩))) (fun c4 => Rt_lt (H0 ?_))) (fun c3 => Rt_lt (H0 ?_)))))
    · intro z; rcases z with z | z | z
      · exact c1 z
      · exact c2 z
      · exact c4 z.2
    · intro z; rcases z with z | z | z
      · exact c1 z
      · exact c2 z
      · exact c3 z.1
theorem mbest {v : LV} {N : Int} {sg lim : Int → Int} {μ : GM} (hv : wfL v) (hx : wfX v) (hN : 0 ≤ N ∧ N ≤ 200) (hm : mV 59 70 μ = v) (e44 : μ.2 53 44 = N) (e88 : μ.1 88 = sg) (e92 : μ.1 92 = lim) (hsg : ∀ i : Nat, (i : Int) < N → 32 ≤ sg i ∧ sg i ≤ 126) :
    Rt (f_X12_plan μ) (fun _ s => ofr PM FM μ s ∧ s.2 53 50 = (bpl v lim sg N (5 ^ nn v 4)).1 ∧ (s.2 53 50 ≠ -10000009 → s.2 53 52 = ((5 ^ (3 - nn v 4) * (bpl v lim sg N (5 ^ nn v 4)).2.2 : Nat) : Int))) := by
  have n4 := nn_c hv 4 (by omega)
  have w4 := hv.2.2.2.2.1
  have hn : nn v 4 < 4 := by omega
  unfold f_X12_plan
  refine Rt_bd (asIs_spec μ) (fun _ μ1 ⟨k1, k2, k3⟩ => ?_)
  have o1 : ofr PM FM μ μ1 := k1.mono (fun k hk => by unfold PM; omega) (fun _ _ z => z.elim)
  have main : ∀ a : Int, (a = if 0 < N ∧ FV v sg N = -10000009 then 1 else 0) → Rt (k_X12_plan_25 a μ1) (fun _ s => ofr PM FM μ s ∧ s.2 53 50 = (bpl v lim sg N (5 ^ nn v 4)).1 ∧ (s.2 53 50 ≠ -10000009 → s.2 53 52 = ((5 ^ (3 - nn v 4) * (bpl v lim sg N (5 ^ nn v 4)).2.2 : Nat) : Int))) := by
    intro a ha
    unfold k_X12_plan_25
    refine Rt_lm (Rt_lm (Rt_lm ?_))
    have f50 : FM 53 50 := ⟨rfl, by omega⟩
    have f51 : FM 53 51 := ⟨rfl, by omega⟩
    have f52 : FM 53 52 := ⟨rfl, by omega⟩
    have ce := cd_e (nn v 4) hn
    refine Rt_loop (fun f z s => k_X12_plan_45 f a z s) _ 125 (fun z s => ofr PM FM μ s ∧ (∀ l : Nat, l < 12 → s.1 72 l = μ.1 59 l) ∧ s.2 53 50 = (bpl v lim sg N (cd (nn v 4) z)).1 ∧ s.2 53 51 = (bpl v lim sg N (cd (nn v 4) z)).2.1 ∧ (s.2 53 50 ≠ -10000009 → s.2 53 52 = ((5 ^ (3 - nn v 4) * (bpl v lim sg N (cd (nn v 4) z)).2.2 : Nat) : Int))) ?_ ?_ FU 0 _ (by omega) (FU_gt (by omega)) ⟨((o1.f f50).f f51).f f52, fun l hl => k2 l hl, ?_, ?_, ?_⟩
    · intro f z s hz ⟨o, h72, i50, i51, i52⟩ hnext
      show Rt (k_X12_plan_45 (f + 1) a (z : Int) s) _
      have e18 : s.2 53 18 = v.2 4 := by rw [o.2 53 18 (by unfold FM; omega)]; exact lmN4 hm
      have e68 : s.1 68 = v.1 14 := by rw [o.1 68 (by unfold PM; omega)]; exact lmA14 hm
      refine pl45 (n := nn v 4) (by rw [e18, n4]) hn hz (fun hd => ?_) (fun hd => ?_)
      · obtain ⟨c1, c2, c3, c4⟩ := cd_y (nn v 4) hn z hz hd
        obtain ⟨k, hk⟩ : ∃ k, k = z / 5 ^ (3 - nn v 4) := ⟨_, rfl⟩
        rw [← hk] at c1 c2 c3 c4
        rw [c1] at i50 i51 i52
        rw [c2] at hnext
        unfold k_X12_plan_99
        refine Rt_neg (by decide) (Rt_bd (drawM hv hx hz c3 e68) (fun _ s1 ⟨p1, r1⟩ => ?_))
        have oo : ofr PM FM μ s1 := o.trans (p1.mono (fun k hk => by unfold P73 at hk; unfold PM; omega) (fun _ _ z => z.elim))
        have g72 : ∀ l : Nat, l < 12 → s1.1 72 l = μ.1 59 l := fun l hl => by rw [p1.1 72 (by unfold P73; omega)]; exact h72 l hl
        have j50 : s1.2 53 50 = (bpl v lim sg N k).1 := (p1.2 53 50 (fun z => z)).trans i50
        have j51 : s1.2 53 51 = (bpl v lim sg N k).2.1 := (p1.2 53 51 (fun z => z)).trans i51
        have j52 : s1.2 53 50 ≠ -10000009 → s1.2 53 52 = ((5 ^ (3 - nn v 4) * (bpl v lim sg N k).2.2 : Nat) : Int) := fun q => (p1.2 53 52 (fun z => z)).trans (i52 (by rw [← p1.2 53 50 (fun z => z)]; exact q))
        refine pl118 hv hx (k := k) ((p1.2 53 18 (fun z => z)).trans e18) (by rw [oo.1 69 (by unfold PM; omega)]; exact lmA15 hm) r1 (fun hb => ?_) (fun hb => ?_)
        · rw [j50, j51] at hb
          unfold k_X12_plan_201
          refine Rt_bd (mmay (lim := lim) (sg := sg) (N := N) hv hN (veq_pl hm hv oo g72 r1) (rtn_wf hv hx k) (rtn_wx hv hx k) (by rw [oo.2 53 44 (by unfold FM; omega)]; exact e44) (by rw [oo.1 88 (by unfold PM; omega)]; exact e88) (by rw [oo.1 92 (by unfold PM; omega)]; exact e92) ha) (fun r s2 ⟨p2, ho⟩ => ?_)
          have o2 : ofr PM FM μ s2 := oo.trans (p2.mono (fun k hk => by unfold PQ PS PHm at hk; unfold PM; omega) (fun k j hk => by unfold FS at hk; unfold FM; omega))
          have m72 : ∀ l : Nat, l < 12 → s2.1 72 l = μ.1 59 l := fun l hl => by rw [p2.1 72 (by unfold PQ PS PHm; omega)]; exact g72 l hl
          rcases ho with ⟨q1, hy⟩ | ⟨q0, hy⟩
          · refine Rt_neg (by omega) (Rt_lm (Rt_lm (Rt_lm (Rt_lt ?_))))
            rw [w32s (by omega)]
            refine hnext _ ⟨((o2.f f50).f f51).f f52, m72, ?_, ?_, fun _ => ?_⟩
            · rw [bpl_y hb hy, gF_ne _ _ (by omega), gF_ne _ _ (by omega)]; exact gF_same _ _ _ _
            · rw [bpl_y hb hy, gF_ne _ _ (by omega)]; exact gF_same _ _ _ _
            · rw [bpl_y hb hy]
              refine (gF_same _ _ _ _).trans ?_
              exact congrArg (fun x : Nat => (x : Int)) c3
          · refine Rt_pos q0 (Rt_lt ?_)
            rw [w32s (by omega)]
            have eb := bpl_n (v := v) (lim := lim) (sg := sg) (N := N) (k := k) (fun z => hy z.2)
            have u50 : s2.2 53 50 = s1.2 53 50 := p2.2 53 50 (by unfold FS; omega)
            have u51 : s2.2 53 51 = s1.2 53 51 := p2.2 53 51 (by unfold FS; omega)
            have u52 : s2.2 53 52 = s1.2 53 52 := p2.2 53 52 (by unfold FS; omega)
            refine hnext _ ⟨o2, m72, ?_, ?_, fun q => ?_⟩
            · rw [eb, u50]; exact j50
            · rw [eb, u51]; exact j51
            · rw [u50] at q
              rw [eb, u52]; exact j52 q
        · rw [j50, j51] at hb
          rw [w32s (by omega)]
          have eb := bpl_n (v := v) (lim := lim) (sg := sg) (N := N) (k := k) (fun z => hb z.1)
          refine hnext _ ⟨oo, g72, ?_, ?_, fun q => ?_⟩
          · rw [eb]; exact j50
          · rw [eb]; exact j51
          · rw [eb]; exact j52 q
      · rw [← cd_n (nn v 4) hn z hz hd] at i50 i51 i52
        exact hnext s ⟨o, h72, i50, i51, i52⟩
    · intro f s ⟨o, h72, i50, i51, i52⟩
      show Rt (k_X12_plan_45 (f + 1) a ((125 : Nat) : Int) s) _
      rw [ce.1] at i50 i52
      rw [k_X12_plan_45]
      exact Rt_neg (by omega) (Rt_some ⟨o, i50, i52⟩)
    · rw [ce.2, gF_ne _ _ (by omega), gF_ne _ _ (by omega)]; exact gF_same _ _ _ _
    · rw [ce.2, gF_ne _ _ (by omega)]; exact gF_same _ _ _ _
    · intro q
      refine absurd ?_ q
      rw [gF_ne _ _ (by omega), gF_ne _ _ (by omega)]; exact gF_same _ _ _ _
  have f44 : μ1.2 53 44 = N := (k1.2 53 44 (fun z => z)).trans e44
  have f88 : μ1.1 88 = sg := (k1.1 88 (by omega)).trans e88
  have m1 : mV 59 70 μ1 = v := (mV_keep k1 (fun k _ _ => by omega) (fun _ _ _ z => z) (by omega) (by omega)).trans hm
  rw [f44]
  refine Rt_if (fun q => ?_) (fun q => ?_)
  · have fm : Rt (f_X12_faultOf μ1) (fun r s' => r = FV v (μ1.1 88) (μ1.2 53 44) ∧ s' = μ1) := by
      unfold f_X12_faultOf
      exact mfault hv m1 (by omega) (fun i hi => by rw [f88]; exact hsg i (by omega)) (μ1.2 53 44).toNat FU 0 0 0 0 0 (FU_gt (by omega)) (by omega) (by omega) (by omega) (by omega) (by omega) (by omega)
    rw [f44, f88] at fm
    refine Rt_bd fm (fun r s' ⟨g1, g2⟩ => ?_)
    rw [g1, g2]
    refine Rt_if (fun c => main 1 (by rw [if_pos ⟨q, c⟩])) (fun c => ?_)
    unfold k_X12_plan_24
    exact main 0 (by rw [if_neg (fun z => c z.2)])
  · unfold k_X12_plan_24
    exact main 0 (by rw [if_neg (fun z => q z.1)])
