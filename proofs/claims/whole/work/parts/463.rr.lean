/-! both sides step by step -/
def RR (x y : Option (Int × GM)) (R : Int → GM → Int → GM → Prop) : Prop := ∃ r μ r' ν, x = some (r, μ) ∧ y = some (r', ν) ∧ R r μ r' ν
theorem RR_some {r r' : Int} {μ ν : GM} {R : Int → GM → Int → GM → Prop} (h : R r μ r' ν) : RR (some (r, μ)) (some (r', ν)) R := ⟨r, μ, r', ν, rfl, rfl, h⟩
theorem RR_ckl {c : Prop} [Decidable c] {x y : Option (Int × GM)} {R : Int → GM → Int → GM → Prop} (hc : c) (h : RR x y R) : RR (ck c x) y R := by rw [ck_pos hc]; exact h
theorem RR_ckr {c : Prop} [Decidable c] {x y : Option (Int × GM)} {R : Int → GM → Int → GM → Prop} (hc : c) (h : RR x y R) : RR x (ck c y) R := by rw [ck_pos hc]; exact h
theorem RR_ltl {v : Int} {k : Int → Option (Int × GM)} {y : Option (Int × GM)} {R : Int → GM → Int → GM → Prop} (h : RR (k v) y R) : RR (lt v k) y R := h
theorem RR_ltr {v : Int} {k : Int → Option (Int × GM)} {x : Option (Int × GM)} {R : Int → GM → Int → GM → Prop} (h : RR x (k v) R) : RR x (lt v k) R := h
theorem RR_lml {v : GM} {k : GM → Option (Int × GM)} {y : Option (Int × GM)} {R : Int → GM → Int → GM → Prop} (h : RR (k v) y R) : RR (lm v k) y R := h
theorem RR_lmr {v : GM} {k : GM → Option (Int × GM)} {x : Option (Int × GM)} {R : Int → GM → Int → GM → Prop} (h : RR x (k v) R) : RR x (lm v k) R := h
theorem RR_bdl {x : Option (Int × GM)} {k : Int → GM → Option (Int × GM)} {y : Option (Int × GM)} {R : Int → GM → Int → GM → Prop} {r : Int} {μ : GM} (h : x = some (r, μ)) (h2 : RR (k r μ) y R) : RR (bd x k) y R := by subst h; exact h2
theorem RR_bdr {x : Option (Int × GM)} {k : Int → GM → Option (Int × GM)} {y : Option (Int × GM)} {R : Int → GM → Int → GM → Prop} {r : Int} {μ : GM} (h : y = some (r, μ)) (h2 : RR x (k r μ) R) : RR x (bd y k) R := by subst h; exact h2
theorem RR_bd {x y : Option (Int × GM)} {k k' : Int → GM → Option (Int × GM)} {P R : Int → GM → Int → GM → Prop} (h : RR x y P) (h2 : ∀ r μ r' ν, P r μ r' ν → RR (k r μ) (k' r' ν) R) : RR (bd x k) (bd y k') R := by
  obtain ⟨r, μ, r', ν, rfl, rfl, hp⟩ := h
  exact h2 r μ r' ν hp
theorem RR_posl {c : Prop} [Decidable c] {x x' y : Option (Int × GM)} {R : Int → GM → Int → GM → Prop} (hc : c) (h : RR x y R) : RR (if c then x else x') y R := by rw [if_pos hc]; exact h
theorem RR_negl {c : Prop} [Decidable c] {x x' y : Option (Int × GM)} {R : Int → GM → Int → GM → Prop} (hc : ¬ c) (h : RR x' y R) : RR (if c then x else x') y R := by rw [if_neg hc]; exact h
theorem RR_posr {c : Prop} [Decidable c] {x y y' : Option (Int × GM)} {R : Int → GM → Int → GM → Prop} (hc : c) (h : RR x y R) : RR x (if c then y else y') R := by rw [if_pos hc]; exact h
theorem RR_negr {c : Prop} [Decidable c] {x y y' : Option (Int × GM)} {R : Int → GM → Int → GM → Prop} (hc : ¬ c) (h : RR x y' R) : RR x (if c then y else y') R := by rw [if_neg hc]; exact h
theorem RR.mono {x y : Option (Int × GM)} {P R : Int → GM → Int → GM → Prop} (h : RR x y P) (h2 : ∀ r μ r' ν, P r μ r' ν → R r μ r' ν) : RR x y R := by
  obtain ⟨r, μ, r', ν, e, e', hp⟩ := h
  exact ⟨r, μ, r', ν, e, e', h2 r μ r' ν hp⟩
theorem RR_loop {σ τ : Type} (k : Nat → Int → σ → Option (Int × GM)) (k' : Nat → Int → τ → Option (Int × GM)) (R : Int → GM → Int → GM → Prop) (N : Nat) (I : Nat → σ → τ → Prop)
    (hs : ∀ n n' z s t, z < N → I z s t → (∀ s' t', I (z + 1) s' t' → RR (k n ((z + 1 : Nat) : Int) s') (k' n' ((z + 1 : Nat) : Int) t') R) → RR (k (n + 1) (z : Int) s) (k' (n' + 1) (z : Int) t) R)
    (he : ∀ n n' s t, I N s t → RR (k (n + 1) (N : Int) s) (k' (n' + 1) (N : Int) t) R) : ∀ (fuel fuel' z : Nat) (s : σ) (t : τ), z ≤ N → N - z < fuel → N - z < fuel' → I z s t → RR (k fuel (z : Int) s) (k' fuel' (z : Int) t) R
  | 0, _, z, s, t, h1, h2, h3, h4 => by omega
  | _ + 1, 0, z, s, t, h1, h2, h3, h4 => by omega
  | n + 1, n' + 1, z, s, t, h1, h2, h3, h4 => by
    by_cases q : z = N
    · subst q; exact he n n' s t h4
    · exact hs n n' z s t (by omega) h4 (fun s' t' hs' => RR_loop k k' R N I hs he n n' (z + 1) s' t' (by omega) (by omega) (by omega) hs')
/-! cups come and leave -/
def TT (μ ν : GM) : Prop := μ.1 28 = ν.1 79 ∧ μ.1 29 = ν.1 81 ∧ (∀ c : Int, 0 ≤ μ.1 28 c ∧ μ.1 28 c ≤ 1000000) ∧ ∀ i : Int, r64 (μ.1 29 i)
def PTc : Nat → Prop := fun k => k = 28 ∨ k = 29 ∨ k = 30
def PTm : Nat → Prop := fun k => k = 79 ∨ k = 80 ∨ k = 81
def ovr (s : Int) : Int := if 1000000 < s then s - 1000000 else 0
theorem ovr_b {s : Int} (h : 0 ≤ s) : 0 ≤ ovr s ∧ ovr s ≤ s ∧ s - ovr s ≤ 1000000 ∧ 0 ≤ s - ovr s := by unfold ovr; split <;> omega
theorem carr_eq {μ : GM} {c n : Int} (hc : 0 ≤ c ∧ c < 6) (hn : 0 ≤ n ∧ n ≤ 30000000) (hh : 0 ≤ μ.1 28 c ∧ μ.1 28 c ≤ 1000000) : f_X0_arrive c n μ = some (0, gA (gA μ 28 c (μ.1 28 c + n - ovr (μ.1 28 c + n))) 29 5 (w64 (μ.1 29 5 + ovr (μ.1 28 c + n)))) := by
  have e : f_J9_max_7cf53 0 (w32 (w32 (μ.1 28 c + n) - 1000000)) μ = some (ovr (μ.1 28 c + n), μ) := by
    rw [w32i (x := μ.1 28 c + n) (by omega) (by omega), w32i (by omega) (by omega)]
    unfold f_J9_max_7cf53 ovr
    by_cases q : 1000000 < μ.1 28 c + n
    · rw [if_pos (by omega), if_pos q]
    · rw [if_neg (by omega), if_neg q]
  have o := ovr_b (s := μ.1 28 c + n) (by omega)
  unfold f_X0_arrive bd lm
  rw [ck_pos hc, e]
  dsimp only
  rw [ck_pos hc, ck_pos hc, ck_pos (by decide), ck_pos (by decide), w32i (x := n - ovr (μ.1 28 c + n)) (by omega) (by omega), w32i (by omega) (by omega), gA_nk _ _ _ (show (29 : Nat) ≠ 28 by decide)]
  rw [show μ.1 28 c + (n - ovr (μ.1 28 c + n)) = μ.1 28 c + n - ovr (μ.1 28 c + n) by omega]
theorem marr_eq {ν : GM} {c n : Int} (hc : 0 ≤ c ∧ c < 6) (hn : 0 ≤ n ∧ n ≤ 30000000) (hh : 0 ≤ ν.1 79 c ∧ ν.1 79 c ≤ 1000000) (hr : r64 (ν.1 81 5)) : ∃ ν', f_X12_comes c n ν = some (0, ν') ∧ ofr PTm nF ν ν' ∧ ν'.1 80 = ν.1 80 ∧ (ν'.1 79 = fun i => if i = c then ν.1 79 c + n - ovr (ν.1 79 c + n) else ν.1 79 i) ∧ ν'.1 81 = fun i => if i = 5 then w64 (ν.1 81 5 + ovr (ν.1 79 c + n)) else ν.1 81 i := by
  unfold f_X12_comes lm
  rw [ck_pos hc, ck_pos hc]
  dsimp only
  rw [ck_pos hc, w32i (by omega) (by omega), gA_same]
  by_cases q : 1000000 < ν.1 79 c + n
  · rw [if_pos q, ck_pos (by decide), ck_pos hc, ck_pos (by decide), ck_pos hc]
    refine ⟨_, rfl, ((ofr.rfl.a (Or.inl rfl)).a (Or.inr (Or.inr rfl))).a (Or.inl rfl), ?_, ?_, ?_⟩
    · rw [gA_nk _ _ _ (by decide), gA_nk _ _ _ (by decide), gA_nk _ _ _ (by decide)]
    · funext i
      rw [gA_at, gA_nk _ _ _ (by decide), gA_at]
      have e : ovr (ν.1 79 c + n) = ν.1 79 c + n - 1000000 := by unfold ovr; rw [if_pos q]
      by_cases qi : i = c
      · rw [if_pos qi, if_pos qi, e]; omega
      · rw [if_neg qi, if_neg qi, if_neg qi]
    · have e : ovr (ν.1 79 c + n) = ν.1 79 c + n - 1000000 := by unfold ovr; rw [if_pos q]
      rw [gA_nk _ _ _ (by decide), e]
      refine (upd_fun (gA_nk _ _ _ (by decide))).trans ?_
      rw [gA_nk _ _ _ (by decide), w32i (by omega) (by omega)]
  · rw [if_neg q]
    have e : ovr (ν.1 79 c + n) = 0 := by unfold ovr; rw [if_neg q]
    refine ⟨_, rfl, ofr.rfl.a (Or.inl rfl), gA_nk _ _ _ (by decide), ?_, ?_⟩
    · rw [e, Int.sub_zero]; exact upd_fun rfl
    · rw [gA_nk _ _ _ (by decide), e, Int.add_zero, w64_id hr]
      funext i
      by_cases qi : i = 5
      · rw [if_pos qi, qi]
      · rw [if_neg qi]
def gon (n h : Int) : Int := if h < n then h else n
theorem gon_b {n h : Int} (hn : 0 ≤ n) (hh : 0 ≤ h) : 0 ≤ gon n h ∧ gon n h ≤ h ∧ gon n h ≤ n := by unfold gon; split <;> omega
theorem clev_eq {μ : GM} {c n : Int} (hc : 0 ≤ c ∧ c < 6) (hn : 0 ≤ n) (hh : 0 ≤ μ.1 28 c ∧ μ.1 28 c ≤ 1000000) : f_X0_leave c n μ = some (gon n (μ.1 28 c), gA μ 28 c (μ.1 28 c - gon n (μ.1 28 c))) := by
  have b := gon_b hn hh.1
  have e : f_J9_min_7cf53 n (μ.1 28 c) μ = some (gon n (μ.1 28 c), μ) := by
    unfold f_J9_min_7cf53 gon; split <;> rfl
  unfold f_X0_leave bd lm
  rw [ck_pos hc, e]
  dsimp only
  rw [ck_pos hc, ck_pos hc, w32i (by omega) (by omega)]
theorem mlev_eq {ν : GM} {c n : Int} (hc : 0 ≤ c ∧ c < 6) (hn : 0 ≤ n) (hh : 0 ≤ ν.1 79 c ∧ ν.1 79 c ≤ 1000000) : f_X12_leaves c n ν = some (gon n (ν.1 79 c), gA ν 79 c (ν.1 79 c - gon n (ν.1 79 c))) := by
  have b := gon_b hn hh.1
  have st : ∀ g, g = gon n (ν.1 79 c) → k_X12_leaves_20 c g ν = some (gon n (ν.1 79 c), gA ν 79 c (ν.1 79 c - gon n (ν.1 79 c))) := fun g hg => by
    rw [hg]
    unfold k_X12_leaves_20
    simp only [lt, lm]
    rw [ck_pos hc, ck_pos hc, w32i (by omega) (by omega)]
  unfold f_X12_leaves
  rw [ck_pos hc]
  by_cases q : n < ν.1 79 c
  · rw [if_pos q]; exact st n (by unfold gon; rw [if_neg (by omega)])
  · rw [if_neg q, ck_pos hc]
    refine st _ ?_
    unfold gon
    by_cases q2 : ν.1 79 c < n
    · rw [if_pos q2]
    · rw [if_neg q2]; omega
theorem q100 (y : Int) : -21474837 ≤ w32 (Int.tdiv (w32 y) 100) ∧ w32 (Int.tdiv (w32 y) 100) ≤ 21474837 := by
  have r := r32_w y
  have e : (Int.tdiv (w32 y) 100).natAbs = (w32 y).natAbs / (100 : Int).natAbs := Int.natAbs_tdiv _ _
  have h1 := r.1
  have h2 := r.2
  have : (100 : Int).natAbs = 100 := rfl
  rw [this] at e
  rw [w32i (by omega) (by omega)]
  omega
