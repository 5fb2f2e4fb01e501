/-! the law's loop, from what each call promises -/
theorem law_loop {L : Nat} {xs : Nat → Int} (hL : L ≤ 2560) (hx : ∀ j, r32 (xs j)) : ∀ (f : Nat) (z3 : Int) (v : LV) (μ : GM), InvV v μ → 0 ≤ z3 → z3 ≤ 2565 → 2570 - z3 < f → Rt (k_L_law_18 L xs f z3 μ) (fun r _ => r = 1)
  | 0, z3, v, μ, h, h1, h2, h3 => by omega
  | f + 1, z3, v, μ, h, h1, h2, h3 => by
    rw [k_L_law_18]
    rw [w32i (x := (L : Int) - 5) (by omega) (by omega)]
    refine Rt_if (fun _ => Rt_some rfl) (fun hz => ?_)
    have w1 : w32 (z3 + 1) = z3 + 1 := w32i (by omega) (by omega)
    have w2 : w32 (z3 + 2) = z3 + 2 := w32i (by omega) (by omega)
    have w3 : w32 (z3 + 3) = z3 + 3 := w32i (by omega) (by omega)
    have w4 : w32 (z3 + 4) = z3 + 4 := w32i (by omega) (by omega)
    have w5 : w32 (z3 + 5) = z3 + 5 := w32i (by omega) (by omega)
    rw [w1, w2, w3, w4, w5]
    have nx : ∀ μ2, (∃ v, InvV v μ2) → Rt (k_L_law_18 L xs f (z3 + 5) μ2) (fun r _ => r = 1) := fun μ2 ⟨v2, h2⟩ => law_loop hL hx f (z3 + 5) v2 μ2 h2 (by omega) (by omega) (by omega)
    refine Rt_ck (by omega) ?_
    refine Rt_if (fun _ => Rt_ck (by omega) (Rt_ck (by omega) (Rt_ck (by omega) (Rt_bd (ok_cell h _ _ _) (fun r μ1 hg => Rt_ck (by omega) (Rt_ck (by omega) (Rt_ck (by omega) (Rt_bd hg (fun r2 μ2 e => Rt_pos e.1.symm (Rt_lt (nx μ2 e.2))))))))))) (fun _ => ?_)
    refine Rt_if (fun _ => Rt_ck (by omega) (Rt_ck (by omega) (Rt_ck (by omega) (Rt_bd (ok_link h _ _ _) (fun r μ1 hg => Rt_ck (by omega) (Rt_ck (by omega) (Rt_ck (by omega) (Rt_bd hg (fun r2 μ2 e => Rt_pos e.1.symm (Rt_lt (nx μ2 e.2))))))))))) (fun _ => ?_)
    refine Rt_if (fun _ => Rt_ck (by omega) (Rt_ck (by omega) (Rt_ck (by omega) (Rt_ck (by omega) (Rt_bd (ok_river h _ _ _ _) (fun r μ1 hg => Rt_ck (by omega) (Rt_ck (by omega) (Rt_ck (by omega) (Rt_ck (by omega) (Rt_bd hg (fun r2 μ2 e => Rt_pos e.1.symm (Rt_lt (nx μ2 e.2))))))))))))) (fun _ => ?_)
    refine Rt_if (fun _ => Rt_ck (by omega) (Rt_ck (by omega) (Rt_ck (by omega) (Rt_bd (ok_drain h _ _ _) (fun r μ1 hg => Rt_ck (by omega) (Rt_ck (by omega) (Rt_ck (by omega) (Rt_bd hg (fun r2 μ2 e => Rt_pos e.1.symm (Rt_lt (nx μ2 e.2))))))))))) (fun _ => ?_)
    refine Rt_if (fun _ => Rt_ck (by omega) (Rt_ck (by omega) (Rt_ck (by omega) (Rt_bd (ok_well h _ _ _) (fun r μ1 hg => Rt_ck (by omega) (Rt_ck (by omega) (Rt_ck (by omega) (Rt_bd hg (fun r2 μ2 e => Rt_pos e.1.symm (Rt_lt (nx μ2 e.2))))))))))) (fun _ => ?_)
    refine Rt_if (fun _ => Rt_ck (by omega) (Rt_ck (by omega) (Rt_bd (ok_rain h _ _) (fun r μ1 hg => Rt_ck (by omega) (Rt_ck (by omega) (Rt_bd hg (fun r2 μ2 e => Rt_pos e.1.symm (Rt_lt (nx μ2 e.2))))))))) (fun _ => ?_)
    refine Rt_if (fun _ => Rt_ck (by omega) (Rt_ck (by omega) (Rt_bd (ok_ease h _ _) (fun r μ1 hg => Rt_ck (by omega) (Rt_ck (by omega) (Rt_bd hg (fun r2 μ2 e => Rt_pos e.1.symm (Rt_lt (nx μ2 e.2))))))))) (fun _ => ?_)
    refine Rt_if (fun _ => Rt_ck (by omega) (Rt_ck (by omega) (Rt_bd (ok_rate h _ _) (fun r μ1 hg => Rt_ck (by omega) (Rt_ck (by omega) (Rt_bd hg (fun r2 μ2 e => Rt_pos e.1.symm (Rt_lt (nx μ2 e.2))))))))) (fun _ => ?_)
    refine Rt_if (fun _ => Rt_ck (by omega) (Rt_ck (by omega) (Rt_bd (ok_stage h _ _) (fun r μ1 hg => Rt_ck (by omega) (Rt_ck (by omega) (Rt_bd hg (fun r2 μ2 e => Rt_pos e.1.symm (Rt_lt (nx μ2 e.2))))))))) (fun _ => ?_)
    refine Rt_if (fun _ => Rt_bd (ok_pattern h) (fun r μ1 hg => Rt_bd hg (fun r2 μ2 e => Rt_pos e.1.symm (Rt_lt (nx μ2 e.2))))) (fun _ => ?_)
    refine Rt_if (fun _ => Rt_ck (by omega) (Rt_ck (by omega) (?_))) (fun _ => ?_)
    · by_cases c : xs (Int.toNat (z3 + 2)) = 0
      · refine Rt_pos c ?_
        unfold k_L_law_625
        refine Rt_bd (ok_head h _ 0) (fun r μ1 hg => ?_)
        rw [w1, w2]
        refine Rt_ck (by omega) (Rt_ck (by omega) (Rt_pos c ?_))
        unfold k_L_law_647
        rw [w5]
        exact Rt_bd hg (fun r2 μ2 e => Rt_pos e.1.symm (Rt_lt (nx μ2 e.2)))
      · refine Rt_neg c ?_
        unfold k_L_law_625
        refine Rt_bd (ok_head h _ 1) (fun r μ1 hg => ?_)
        rw [w1, w2]
        refine Rt_ck (by omega) (Rt_ck (by omega) (Rt_neg c ?_))
        unfold k_L_law_647
        rw [w5]
        exact Rt_bd hg (fun r2 μ2 e => Rt_pos e.1.symm (Rt_lt (nx μ2 e.2)))
    refine Rt_if (fun _ => Rt_ck (by omega) (Rt_bd (ok_milli h _) (fun r μ1 hg => Rt_ck (by omega) (Rt_bd hg (fun r2 μ2 e => Rt_pos e.1.symm (Rt_lt (nx μ2 e.2))))))) (fun _ => ?_)
    refine Rt_if (fun _ => Rt_ck (by omega) (Rt_bd (ok_flow h _) (fun r μ1 hg => Rt_ck (by omega) (Rt_bd hg (fun r2 μ2 e => Rt_pos e.1.symm (Rt_lt (nx μ2 e.2))))))) (fun _ => ?_)
    refine Rt_if (fun _ => Rt_ck (by omega) (Rt_bd (ok_gives h _) (fun r μ1 hg => Rt_ck (by omega) (Rt_bd hg (fun r2 μ2 e => Rt_pos e.1.symm (Rt_lt (nx μ2 e.2))))))) (fun _ => ?_)
    refine Rt_if (fun _ => Rt_ck (by omega) (Rt_bd (ok_takes h _) (fun r μ1 hg => Rt_ck (by omega) (Rt_bd hg (fun r2 μ2 e => Rt_pos e.1.symm (Rt_lt (nx μ2 e.2))))))) (fun _ => ?_)
    refine Rt_if (fun _ => Rt_ck (by omega) (Rt_bd (ok_dry h _) (fun r μ1 hg => Rt_ck (by omega) (Rt_bd hg (fun r2 μ2 e => Rt_pos e.1.symm (Rt_lt (nx μ2 e.2))))))) (fun _ => ?_)
    refine Rt_if (fun _ => Rt_ck (by omega) (Rt_bd (ok_salt h _) (fun r μ1 hg => Rt_ck (by omega) (Rt_bd hg (fun r2 μ2 e => Rt_pos e.1.symm (Rt_lt (nx μ2 e.2))))))) (fun _ => ?_)
    refine Rt_if (fun _ => Rt_ck (by omega) (?_)) (fun _ => ?_)
    · by_cases c : xs (Int.toNat (z3 + 1)) = 0
      · refine Rt_pos c ?_
        unfold k_L_law_808
        refine Rt_bd (ok_through h 0) (fun r μ1 hg => ?_)
        rw [w1]
        refine Rt_ck (by omega) (Rt_pos c ?_)
        unfold k_L_law_825
        rw [w5]
        exact Rt_bd hg (fun r2 μ2 e => Rt_pos e.1.symm (Rt_lt (nx μ2 e.2)))
      · refine Rt_neg c ?_
        unfold k_L_law_808
        refine Rt_bd (ok_through h 1) (fun r μ1 hg => ?_)
        rw [w1]
        refine Rt_ck (by omega) (Rt_neg c ?_)
        unfold k_L_law_825
        rw [w5]
        exact Rt_bd hg (fun r2 μ2 e => Rt_pos e.1.symm (Rt_lt (nx μ2 e.2)))
    refine Rt_if (fun _ => Rt_ck (by omega) (Rt_ck (by omega) (Rt_bd (ok_way h _ _) (fun r μ1 hg => Rt_ck (by omega) (Rt_ck (by omega) (Rt_bd hg (fun r2 μ2 e => Rt_pos e.1.symm (Rt_lt (nx μ2 e.2))))))))) (fun _ => ?_)
    refine Rt_if (fun _ => Rt_ck (by omega) (Rt_bd (ok_end h _) (fun r μ1 hg => Rt_ck (by omega) (Rt_bd hg (fun r2 μ2 e => Rt_pos e.1.symm (Rt_lt (nx μ2 e.2))))))) (fun _ => ?_)
    refine Rt_if (fun _ => Rt_ck (by omega) (Rt_ck (by omega) (?_))) (fun _ => ?_)
    · by_cases c : xs (Int.toNat (z3 + 2)) = 0
      · refine Rt_pos c ?_
        unfold k_L_law_909
        refine Rt_bd (ok_time h _ 0) (fun r μ1 hg => ?_)
        rw [w1, w2]
        refine Rt_ck (by omega) (Rt_ck (by omega) (Rt_pos c ?_))
        unfold k_L_law_931
        rw [w5]
        exact Rt_bd hg (fun r2 μ2 e => Rt_pos e.1.symm (Rt_lt (nx μ2 e.2)))
      · refine Rt_neg c ?_
        unfold k_L_law_909
        refine Rt_bd (ok_time h _ 1) (fun r μ1 hg => ?_)
        rw [w1, w2]
        refine Rt_ck (by omega) (Rt_ck (by omega) (Rt_neg c ?_))
        unfold k_L_law_931
        rw [w5]
        exact Rt_bd hg (fun r2 μ2 e => Rt_pos e.1.symm (Rt_lt (nx μ2 e.2)))
    refine Rt_if (fun _ => Rt_ck (by omega) (Rt_bd (ok_wayTime h _) (fun r μ1 hg => Rt_ck (by omega) (Rt_bd hg (fun r2 μ2 e => Rt_pos e.1.symm (Rt_lt (nx μ2 e.2))))))) (fun _ => ?_)
    refine Rt_if (fun _ => Rt_ck (by omega) (Rt_bd (ok_zone h _) (fun r μ1 hg => Rt_ck (by omega) (Rt_bd hg (fun r2 μ2 e => Rt_pos e.1.symm (Rt_lt (nx μ2 e.2))))))) (fun _ => ?_)
    refine Rt_if (fun _ => Rt_ck (by omega) (Rt_ck (by omega) (Rt_bd (ok_spill h _ _ (hx _).1 (hx _).2) (fun r μ1 hg => Rt_ck (by omega) (Rt_ck (by omega) (Rt_bd hg (fun r2 μ2 e => Rt_pos e.1.symm (Rt_lt (nx μ2 e.2))))))))) (fun _ => ?_)
    refine Rt_if (fun _ => Rt_ck (by omega) (Rt_ck (by omega) (Rt_bd (ok_pour h _ _) (fun r μ1 hg => Rt_ck (by omega) (Rt_ck (by omega) (Rt_bd hg (fun r2 μ2 e => Rt_pos e.1.symm (Rt_lt (nx μ2 e.2))))))))) (fun _ => ?_)
    refine Rt_if (fun _ => Rt_ck (by omega) (Rt_bd (ok_cups h _) (fun r μ1 hg => Rt_ck (by omega) (Rt_bd hg (fun r2 μ2 e => Rt_pos e.1.symm (Rt_lt (nx μ2 e.2))))))) (fun _ => ?_)
    refine Rt_if (fun _ => Rt_ck (by omega) (Rt_bd (ok_mark h _) (fun r μ1 hg => Rt_ck (by omega) (Rt_bd hg (fun r2 μ2 e => Rt_pos e.1.symm (Rt_lt (nx μ2 e.2))))))) (fun _ => ?_)
    refine Rt_if (fun _ => Rt_ck (by omega) (Rt_bd (ok_tick h _) (fun r μ1 hg => Rt_ck (by omega) (Rt_bd hg (fun r2 μ2 e => Rt_pos e.1.symm (Rt_lt (nx μ2 e.2))))))) (fun _ => ?_)
    refine Rt_if (fun _ => Rt_ck (by omega) (Rt_bd (ok_book h _) (fun r μ1 hg => Rt_ck (by omega) (Rt_bd hg (fun r2 μ2 e => Rt_pos e.1.symm (Rt_lt (nx μ2 e.2))))))) (fun _ => ?_)
    refine Rt_if (fun _ => Rt_ck (by omega) (Rt_ck (by omega) (Rt_bd (ok_world h _ _) (fun r μ1 hg => Rt_ck (by omega) (Rt_ck (by omega) (Rt_bd hg (fun r2 μ2 e => Rt_pos e.1.symm (Rt_lt (nx μ2 e.2))))))))) (fun _ => ?_)
    refine Rt_if (fun _ => Rt_ck (by omega) (Rt_ck (by omega) (Rt_ck (by omega) (Rt_bd (ok_see h _ _ _) (fun r μ1 hg => Rt_ck (by omega) (Rt_ck (by omega) (Rt_ck (by omega) (Rt_bd hg (fun r2 μ2 e => Rt_pos e.1.symm (Rt_lt (nx μ2 e.2))))))))))) (fun _ => ?_)
    refine Rt_if (fun _ => Rt_bd (ok_left h) (fun r μ1 hg => Rt_bd hg (fun r2 μ2 e => Rt_pos e.1.symm (Rt_lt (nx μ2 e.2))))) (fun _ => ?_)
    refine Rt_if (fun _ => Rt_ck (by omega) (Rt_ck (by omega) (Rt_bd (ok_inWorld h _ _) (fun r μ1 hg => Rt_ck (by omega) (Rt_ck (by omega) (Rt_bd hg (fun r2 μ2 e => Rt_pos e.1.symm (Rt_lt (nx μ2 e.2))))))))) (fun _ => ?_)
    refine Rt_if (fun _ => Rt_bd (ok_next h) (fun r μ1 hg => Rt_bd hg (fun r2 μ2 e => Rt_pos e.1.symm (Rt_lt (nx μ2 e.2))))) (fun _ => ?_)
    refine Rt_if (fun _ => Rt_ck (by omega) (Rt_bd (ok_alike h _) (fun r μ1 hg => Rt_ck (by omega) (Rt_bd hg (fun r2 μ2 e => Rt_pos e.1.symm (Rt_lt (nx μ2 e.2))))))) (fun _ => ?_)
    refine Rt_if (fun _ => Rt_ck (by omega) (Rt_bd (ok_sign h _) (fun r μ1 hg => Rt_ck (by omega) (Rt_bd hg (fun r2 μ2 e => Rt_pos e.1.symm (Rt_lt (nx μ2 e.2))))))) (fun _ => ?_)
    refine Rt_if (fun _ => Rt_bd (ok_wipe h) (fun r μ1 hg => Rt_bd hg (fun r2 μ2 e => Rt_pos e.1.symm (Rt_lt (nx μ2 e.2))))) (fun _ => ?_)
    refine Rt_if (fun _ => Rt_bd (ok_fault h) (fun r μ1 hg => Rt_bd hg (fun r2 μ2 e => Rt_pos e.1.symm (Rt_lt (nx μ2 e.2))))) (fun _ => ?_)
    refine Rt_if (fun _ => Rt_bd (ok_holds h) (fun r μ1 hg => Rt_bd hg (fun r2 μ2 e => Rt_pos e.1.symm (Rt_lt (nx μ2 e.2))))) (fun _ => ?_)
    refine Rt_if (fun _ => Rt_ck (by omega) (Rt_ck (by omega) (Rt_bd (ok_limit h _ _) (fun r μ1 hg => Rt_ck (by omega) (Rt_ck (by omega) (Rt_bd hg (fun r2 μ2 e => Rt_pos e.1.symm (Rt_lt (nx μ2 e.2))))))))) (fun _ => ?_)
    refine Rt_if (fun _ => Rt_bd (ok_worth h) (fun r μ1 hg => Rt_bd hg (fun r2 μ2 e => Rt_pos e.1.symm (Rt_lt (nx μ2 e.2))))) (fun _ => ?_)
    refine Rt_if (fun _ => Rt_ck (by omega) (Rt_bd (ok_level h _) (fun r μ1 hg => Rt_ck (by omega) (Rt_bd hg (fun r2 μ2 e => Rt_pos e.1.symm (Rt_lt (nx μ2 e.2))))))) (fun _ => ?_)
    refine Rt_if (fun _ => Rt_bd (ok_draw h) (fun r μ1 hg => Rt_bd hg (fun r2 μ2 e => Rt_pos e.1.symm (Rt_lt (nx μ2 e.2))))) (fun _ => ?_)
    refine Rt_if (fun _ => Rt_ck (by omega) (Rt_bd (ok_price h _) (fun r μ1 hg => Rt_ck (by omega) (Rt_bd hg (fun r2 μ2 e => Rt_pos e.1.symm (Rt_lt (nx μ2 e.2))))))) (fun _ => ?_)
    refine Rt_if (fun _ => Rt_ck (by omega) (Rt_bd (ok_harm h _) (fun r μ1 hg => Rt_ck (by omega) (Rt_bd hg (fun r2 μ2 e => Rt_pos e.1.symm (Rt_lt (nx μ2 e.2))))))) (fun _ => ?_)
    refine Rt_if (fun _ => Rt_ck (by omega) (Rt_ck (by omega) (Rt_bd (ok_share h _ _) (fun r μ1 hg => Rt_ck (by omega) (Rt_ck (by omega) (Rt_bd hg (fun r2 μ2 e => Rt_pos e.1.symm (Rt_lt (nx μ2 e.2))))))))) (fun _ => ?_)
    refine Rt_if (fun _ => Rt_ck (by omega) (Rt_bd (ok_count h _) (fun r μ1 hg => Rt_ck (by omega) (Rt_bd hg (fun r2 μ2 e => Rt_pos e.1.symm (Rt_lt (nx μ2 e.2))))))) (fun _ => ?_)
    exact Rt_lt (nx μ ⟨v, h⟩)
