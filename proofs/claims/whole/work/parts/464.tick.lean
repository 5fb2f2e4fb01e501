/-! a tick on both sides -/
def STk (μ0 ν0 μ ν : GM) : Prop := ofr PTc nF μ0 μ ∧ ofr PTm nF ν0 ν ∧ TT μ ν
theorem STk.c {v : LV} {μ0 ν0 μ ν : GM} (h : STk μ0 ν0 μ ν) (hc : cV 22 μ0 = v) : cV 22 μ = v := (cV_keep h.1 (fun k hk => by unfold PTc; omega) (fun _ _ _ z => z) (by unfold PTc; omega)).trans hc
theorem STk.m {v : LV} {μ0 ν0 μ ν : GM} (h : STk μ0 ν0 μ ν) (hc : mV 59 70 ν0 = v) : mV 59 70 ν = v := (mV_keep h.2.1 (fun k hk hk2 => by unfold PTm; omega) (fun _ _ _ z => z) (by unfold PTm; omega) (by unfold PTm; omega)).trans hc
def mkE (v : LV) (μ ν : GM) : Prop := ∀ c : Int, 0 ≤ c → c < v.2 0 → μ.1 30 c = ν.1 80 c ∧ 0 ≤ ν.1 80 c ∧ ν.1 80 c ≤ 1000500
theorem mkv_b {v : LV} (hv : wfL v) (hx : wfX v) {a : Int → Int} {c : Int} (hc : 0 ≤ c ∧ c < v.2 0) (ha : 0 ≤ a c ∧ a c ≤ 1000000) : 0 ≤ mkv v a c ∧ mkv v a c ≤ 1000500 := by
  have n0 := nn_c hv 0 (by omega)
  have b := hx.1 c.toNat (by omega)
  rw [show ((c.toNat : Nat) : Int) = c by omega] at b
  have e : (Int.tdiv (a c) (v.1 2 c)) = a c / v.1 2 c := tdiv_pos ha.1
  have e1 : 0 ≤ a c / v.1 2 c := Int.ediv_nonneg ha.1 (by omega)
  have e2 : a c / v.1 2 c ≤ a c := Int.ediv_le_self _ ha.1
  unfold mkv
  rw [e, w32i (x := a c / v.1 2 c) (by omega) (by omega), w32i (by omega) (by omega)]
  omega
theorem TT_set {μ ν : GM} (h : TT μ ν) {c x : Int} (hx : 0 ≤ x ∧ x ≤ 1000000) : TT (gA μ 28 c x) (gA ν 79 c x) := by
  refine ⟨?_, ?_, fun d => ?_, fun i => ?_⟩
  · rw [upd_fun h.1, upd_fun rfl]
  · rw [gA_nk _ _ _ (by decide), gA_nk _ _ _ (by decide)]; exact h.2.1
  · rw [gA_at]; split
    · exact hx
    · exact h.2.2.1 d
  · rw [gA_nk _ _ _ (by decide)]; exact h.2.2.2 i
theorem TT_book {μ ν : GM} (h : TT μ ν) {j x : Int} (hx : r64 x) : TT (gA μ 29 j x) (gA ν 81 j x) := by
  refine ⟨?_, ?_, fun d => ?_, fun i => ?_⟩
  · rw [gA_nk _ _ _ (by decide), gA_nk _ _ _ (by decide)]; exact h.1
  · rw [upd_fun h.2.1, upd_fun rfl]
  · rw [gA_nk _ _ _ (by decide)]; exact h.2.2.1 d
  · rw [gA_at]; split
    · exact hx
    · exact h.2.2.2 i
/-- cups come on both sides -/
theorem TT_arr {μ0 ν0 μ ν : GM} (h : STk μ0 ν0 μ ν) {c n : Int} (hc : 0 ≤ c ∧ c < 6) (hn : 0 ≤ n ∧ n ≤ 30000000) : ∃ μ' ν', f_X0_arrive c n μ = some (0, μ') ∧ f_X12_comes c n ν = some (0, ν') ∧ STk μ0 ν0 μ' ν' ∧ μ'.1 30 = μ.1 30 ∧ ν'.1 80 = ν.1 80 := by
  have hh := h.2.2.2.2.1 c
  have hm : 0 ≤ ν.1 79 c ∧ ν.1 79 c ≤ 1000000 := by rw [← h.2.2.1]; exact hh
  obtain ⟨ν', e1, e2, e3, e4, e5⟩ := marr_eq (ν := ν) hc hn hm (by rw [← h.2.2.2.1]; exact h.2.2.2.2.2 5)
  refine ⟨_, ν', carr_eq hc hn hh, e1, ⟨(h.1.a (Or.inl rfl)).a (Or.inr (Or.inl rfl)), h.2.1.trans e2, ?_, ?_, fun d => ?_, fun i => ?_⟩, ?_, e3⟩
  · rw [e4, gA_nk _ _ _ (by decide), ← h.2.2.1]; exact upd_fun rfl
  · rw [e5, ← h.2.2.2.1, ← h.2.2.1]; exact upd_fun (gA_nk _ _ _ (by decide))
  · have o := ovr_b (s := μ.1 28 c + n) (by omega)
    rw [gA_nk _ _ _ (by decide), gA_at]; split
    · omega
    · exact h.2.2.2.2.1 d
  · rw [gA_at]; split
    · exact r64_w _
    · rw [gA_nk _ _ _ (by decide)]; exact h.2.2.2.2.2 i
  · rw [gA_nk _ _ _ (by decide), gA_nk _ _ _ (by decide)]
theorem TT_lev {μ0 ν0 μ ν : GM} (h : STk μ0 ν0 μ ν) {c n : Int} (hc : 0 ≤ c ∧ c < 6) (hn : 0 ≤ n) : ∃ g μ' ν', f_X0_leave c n μ = some (g, μ') ∧ f_X12_leaves c n ν = some (g, ν') ∧ STk μ0 ν0 μ' ν' ∧ (0 ≤ g ∧ g ≤ 1000000) ∧ μ'.1 30 = μ.1 30 ∧ ν'.1 80 = ν.1 80 ∧ μ'.1 29 = μ.1 29 ∧ ν'.1 81 = ν.1 81 := by
  have hh := h.2.2.2.2.1 c
  have hm : 0 ≤ ν.1 79 c ∧ ν.1 79 c ≤ 1000000 := by rw [← h.2.2.1]; exact hh
  have b := gon_b hn hh.1
  have el := mlev_eq (ν := ν) hc hn hm
  rw [← h.2.2.1] at el
  refine ⟨_, _, _, clev_eq hc hn hh, el, ⟨h.1.a (Or.inl rfl), h.2.1.a (Or.inl rfl), TT_set h.2.2 (by omega)⟩, by omega, ?_, ?_, ?_, ?_⟩
  · rw [gA_nk _ _ _ (by decide)]
  · rw [gA_nk _ _ _ (by decide)]
  · rw [gA_nk _ _ _ (by decide)]
  · rw [gA_nk _ _ _ (by decide)]
theorem STk_book {μ0 ν0 μ ν : GM} (h : STk μ0 ν0 μ ν) {j x : Int} (hx : r64 x) : STk μ0 ν0 (gA μ 29 j x) (gA ν 81 j x) := ⟨h.1.a (Or.inr (Or.inl rfl)), h.2.1.a (Or.inr (Or.inr rfl)), TT_book h.2.2 hx⟩
/-- a book first, then cups; or cups first, then the book -/
theorem TT_barr {μ0 ν0 μ ν : GM} (h : STk μ0 ν0 μ ν) {c n j x : Int} (hc : 0 ≤ c ∧ c < 6) (hn : 0 ≤ n ∧ n ≤ 30000000) (hj : j ≠ 5) : ∃ μ' ν', f_X0_arrive c n (gA μ 29 j (w64 (μ.1 29 j + x))) = some (0, μ') ∧ f_X12_comes c n ν = some (0, ν') ∧ STk μ0 ν0 μ' (gA ν' 81 j (w64 (ν'.1 81 j + x))) ∧ μ'.1 30 = μ.1 30 ∧ ν'.1 80 = ν.1 80 ∧ ofr PTm nF ν ν' := by
  have hh := h.2.2.2.2.1 c
  have hm : 0 ≤ ν.1 79 c ∧ ν.1 79 c ≤ 1000000 := by rw [← h.2.2.1]; exact hh
  obtain ⟨ν', e1, e2, e3, e4, e5⟩ := marr_eq (ν := ν) hc hn hm (by rw [← h.2.2.2.1]; exact h.2.2.2.2.2 5)
  obtain ⟨X, hX⟩ : ∃ X, X = w64 (μ.1 29 j + x) := ⟨_, rfl⟩
  rw [← hX]
  obtain ⟨μa, hμa⟩ : ∃ μa, μa = gA μ 29 j X := ⟨_, rfl⟩
  rw [← hμa]
  have a28 : μa.1 28 = μ.1 28 := by rw [hμa, gA_nk _ _ _ (by decide)]
  have a29 : μa.1 29 = fun i => if i = j then X else μ.1 29 i := by rw [hμa]; exact upd_fun rfl
  have a30 : μa.1 30 = μ.1 30 := by rw [hμa, gA_nk _ _ _ (by decide)]
  have oa : ofr PTc nF μ0 μa := by rw [hμa]; exact h.1.a (Or.inr (Or.inl rfl))
  have a5 : μa.1 29 5 = μ.1 29 5 := by rw [a29]; exact if_neg (fun z => hj z.symm)
  have hh2 : 0 ≤ μa.1 28 c ∧ μa.1 28 c ≤ 1000000 := by rw [a28]; exact hh
  have ce := carr_eq (μ := μa) hc hn hh2
  rw [a5, a28] at ce
  have o := ovr_b (s := μ.1 28 c + n) (by omega)
  have bj : w64 (ν'.1 81 j + x) = X := by
    have : ν'.1 81 j = μ.1 29 j := by rw [e5, h.2.2.2.1]; exact if_neg hj
    rw [this, hX]
  refine ⟨_, ν', ce, e1, ⟨(oa.a (Or.inl rfl)).a (Or.inr (Or.inl rfl)), (h.2.1.trans e2).a (Or.inr (Or.inr rfl)), ?_, ?_, fun d => ?_, fun i => ?_⟩, ?_, e3, e2⟩
  · rw [gA_nk (gA μa 28 c _) _ _ (show (28 : Nat) ≠ 29 by decide), gA_nk ν' _ _ (show (79 : Nat) ≠ 81 by decide), e4, ← h.2.2.1]
    exact upd_fun a28
  · rw [bj, upd_fun (gA_nk μa _ _ (show (29 : Nat) ≠ 28 by decide)), upd_fun e5, a29, ← h.2.2.2.1, ← h.2.2.1]
    funext i
    by_cases q5 : i = 5
    · have q6 : i ≠ j := fun z => hj (z.symm.trans q5)
      rw [if_pos q5, if_neg q6, if_pos q5]
    · rw [if_neg q5, if_neg q5]
  · rw [gA_nk (gA μa 28 c _) _ _ (show (28 : Nat) ≠ 29 by decide), gA_at, a28]; split
    · omega
    · exact h.2.2.2.2.1 d
  · rw [gA_at]; split
    · exact r64_w _
    · rw [gA_nk μa _ _ (show (29 : Nat) ≠ 28 by decide), a29]
      show r64 (if i = j then X else μ.1 29 i)
      split
      · rw [hX]; exact r64_w _
      · exact h.2.2.2.2.2 i
  · rw [gA_nk (gA μa 28 c _) _ _ (show (30 : Nat) ≠ 29 by decide), gA_nk μa _ _ (show (30 : Nat) ≠ 28 by decide)]; exact a30
theorem run_river {v : LV} (hv : wfL v) {μ0 ν0 s t : GM} (hc : cV 22 s = v) (hs : STk μ0 ν0 s t) {z : Nat} (hz : z < nn v 2) {x g : Int} (hxx : x = v.1 6 z) (mk : s.1 30 x = t.1 80 x) (hg : g = if t.1 80 x < v.1 8 z then v.1 8 z else t.1 80 x) :
    ∃ μ' ν', f_X0_runRiver (z : Int) s = some (0, μ') ∧ (∀ K : Int → GM → Option (Int × GM), k_X12_goOn_129 K (z : Int) x (v.1 9 z) (v.1 7 z) g t = K ((z + 1 : Nat) : Int) ν') ∧ STk μ0 ν0 μ' ν' ∧ μ'.1 30 = s.1 30 ∧ ν'.1 80 = t.1 80 := by
  have n2 := nn_c hv 2 (by omega)
  have l2 := hv.2.2.1
  have l0 := hv.1
  have hr := hv.2.2.2.2.2.2.2.1 z hz
  rw [← hxx] at hr
  have emax : f_J9_max_7cf53 (t.1 80 x) (v.1 8 z) s = some (g, s) := by
    unfold f_J9_max_7cf53; rw [hg]; split <;> rfl
  obtain ⟨d, hd⟩ : ∃ d, d = w32 (Int.tdiv (w32 (v.1 9 z * w32 (v.1 7 z - g))) 100) := ⟨_, rfl⟩
  have db : -21474837 ≤ d ∧ d ≤ 21474837 := hd ▸ q100 _
  have ce : ∀ R, (if d < 0 then ck (0 ≤ (2 : Int) ∧ (2 : Int) < 6) (bd (f_X0_leave x (w32 (-d)) s) fun x8 μ9 => ck (0 ≤ (2 : Int) ∧ (2 : Int) < 6) (lm (gA μ9 29 2 (w64 (s.1 29 2 + x8))) fun μ10 => some ((0 : Int), μ10))) else ck (0 ≤ (1 : Int) ∧ (1 : Int) < 6) (ck (0 ≤ (1 : Int) ∧ (1 : Int) < 6) (lm (gA s 29 1 (w64 (s.1 29 1 + d))) fun μ5 => bd (f_X0_arrive x d μ5) fun _ μ7 => some ((0 : Int), μ7)))) = R → f_X0_runRiver (z : Int) s = R := fun R hR => by
    unfold f_X0_runRiver lt
    rw [lcA6 hc, lcA7 hc, lcA8 hc, lcA9 hc, ← hxx]
    dsimp only
    rw [ck_pos (by omega), ck_pos (by omega), ck_pos (by omega), ck_pos (by omega), ck_pos (by omega), mk, emax]
    show ck ((100 : Int) ≠ 0) _ = _
    rw [ck_pos (by decide), ← hd]
    exact hR
  by_cases q : d < 0
  · obtain ⟨gg, μ', ν', e1, e2, e3, e4, e5, e6, e7, e8⟩ := TT_lev hs (c := x) (n := w32 (-d)) (by omega) (by rw [w32i (by omega) (by omega)]; omega)
    refine ⟨gA μ' 29 2 (w64 (s.1 29 2 + gg)), gA ν' 81 2 (w64 (t.1 81 2 + gg)), ce _ ?_, fun K => ?_, ?_, ?_, ?_⟩
    · rw [if_pos q, ck_pos (by decide), e1]
      show ck _ _ = _
      rw [ck_pos (by decide)]
      rfl
    · unfold k_X12_goOn_129 lt
      rw [ck_pos (by decide), ← hd]
      dsimp only
      rw [if_pos q, ck_pos (by decide), e2]
      show ck _ _ = _
      rw [ck_pos (by decide)]
      unfold lm
      rw [w32s (by omega)]
    · rw [hs.2.2.2.1]; exact STk_book e3 (r64_w _)
    · rw [gA_nk _ _ _ (by decide)]; exact e5
    · rw [gA_nk _ _ _ (by decide)]; exact e6
  · obtain ⟨μ', ν', e1, e2, e3, e4, e5, e6⟩ := TT_barr hs (c := x) (n := d) (j := 1) (x := d) (by omega) (by omega) (by decide)
    refine ⟨μ', gA ν' 81 1 (w64 (ν'.1 81 1 + d)), ce _ ?_, fun K => ?_, e3, e4, ?_⟩
    · rw [if_neg q, ck_pos (by decide), ck_pos (by decide)]
      unfold lm
      dsimp only
      rw [e1]
      rfl
    · unfold k_X12_goOn_129 lt
      rw [ck_pos (by decide), ← hd]
      dsimp only
      rw [if_neg q, e2]
      show ck _ _ = _
      rw [ck_pos (by decide), ck_pos (by decide)]
      unfold lm
      rw [w32s (by omega)]
    · rw [gA_nk _ _ _ (by decide)]; exact e5
theorem tick_rr {v : LV} (hv : wfL v) (hx : wfX v) {μ0 ν0 μ ν : GM} (hc : cV 22 μ0 = v) (hm : mV 59 70 ν0 = v) (h : STk μ0 ν0 μ ν) : RR (f_X0_passTick μ) (f_X12_goOn ν) (fun _ μ' _ ν' => STk μ0 ν0 μ' ν') := by
  have n0 := nn_c hv 0 (by omega)
  have n1 := nn_c hv 1 (by omega)
  have n2 := nn_c hv 2 (by omega)
  have n3 := nn_c hv 3 (by omega)
  have n4 := nn_c hv 4 (by omega)
  have l0 := hv.1
  have l1 := hv.2.1
  have l2 := hv.2.2.1
  have l3 := hv.2.2.2.1
  have l4 := hv.2.2.2.2.1
  unfold f_X0_passTick f_X12_goOn
  refine RR_loop (fun f z s => k_X0_passTick_2 f z s) (fun f z s => k_X12_goOn_2 f z s) _ (nn v 0) (fun z s t => STk μ0 ν0 s t ∧ ∀ c : Int, 0 ≤ c → c < z → s.1 30 c = t.1 80 c ∧ 0 ≤ t.1 80 c ∧ t.1 80 c ≤ 1000500) ?_ ?_ FU FU 0 μ ν (by omega) (FU_gt (by omega)) (FU_gt (by omega)) ⟨h, fun c h1 h2 => by omega⟩
  · intro f f' z s t hz ⟨hs, hk⟩ hnext
    have c1 := hs.c hc
    have m1 := hs.m hm
    show RR (k_X0_passTick_2 (f + 1) (z : Int) s) (k_X12_goOn_2 (f' + 1) (z : Int) t) _
    rw [k_X0_passTick_2, k_X12_goOn_2, lcN0 c1, lmN0 m1]
    refine RR_posl (by omega) (RR_posr (by omega) (RR_bdl (cmark_eq hv hx c1 (by omega)) (RR_bdr (mmark_eq hv hx m1 (by omega)) (RR_ckl (by omega) (RR_ckr (by omega) (RR_lml (RR_lmr (RR_ltl (RR_ltr ?_)))))))))
    rw [w32s (by omega)]
    refine hnext _ _ ⟨⟨hs.1.a (Or.inr (Or.inr rfl)), hs.2.1.a (Or.inr (Or.inl rfl)), ?_⟩, fun c h1 h2 => ?_⟩
    · obtain ⟨t1, t2, t3, t4⟩ := hs.2.2
      refine ⟨?_, ?_, fun d => ?_, fun i => ?_⟩
      · rw [gA_nk _ _ _ (by decide), gA_nk _ _ _ (by decide)]; exact t1
      · rw [gA_nk _ _ _ (by decide), gA_nk _ _ _ (by decide)]; exact t2
      · rw [gA_nk _ _ _ (by decide)]; exact t3 d
      · rw [gA_nk _ _ _ (by decide)]; exact t4 i
    · rw [gA_at, gA_at, hs.2.2.1]
      by_cases q : c = (z : Int)
      · rw [if_pos q, if_pos q]
        have mb := mkv_b hv hx (a := t.1 79) (c := (z : Int)) (by omega) (by rw [← hs.2.2.1]; exact hs.2.2.2.2.1 _)
        exact ⟨rfl, mb⟩
      · rw [if_neg q, if_neg q]; exact hk c h1 (by omega)
  intro f f' s t ⟨hs, hk⟩
  have c1 := hs.c hc
  have m1 := hs.m hm
  show RR (k_X0_passTick_2 (f + 1) (nn v 0 : Int) s) (k_X12_goOn_2 (f' + 1) (nn v 0 : Int) t) _
  rw [k_X0_passTick_2, k_X12_goOn_2, lcN0 c1, lmN0 m1]
  refine RR_negl (by omega) (RR_negr (by omega) ?_)
  have hk0 : mkE v s t := fun c h1 h2 => hk c h1 (by omega)
  refine RR_loop (fun f z s => k_X0_passTick_32 f z s) (fun f z s => k_X12_goOn_29 f z s) _ (nn v 0) (fun z s t => STk μ0 ν0 s t ∧ mkE v s t) ?_ ?_ FU FU 0 s t (by omega) (FU_gt (by omega)) (FU_gt (by omega)) ⟨hs, hk0⟩
  · intro f f' z s t hz ⟨hs, hk⟩ hnext
    have c1 := hs.c hc
    have m1 := hs.m hm
    have hr := hv.2.2.2.2.2.1 z hz
    show RR (k_X0_passTick_32 (f + 1) (z : Int) s) (k_X12_goOn_29 (f' + 1) (z : Int) t) _
    rw [k_X0_passTick_32, k_X12_goOn_29, lcN0 c1, lmN0 m1, lcA1 c1, lmA1 m1]
    refine RR_posl (by omega) (RR_posr (by omega) (RR_ckl (by decide) (RR_ckl (by omega) (RR_ckl (by decide) (RR_lml (RR_ckl (by omega) (RR_ckr (by omega) ?_)))))))
    obtain ⟨μ', ν', e1, e2, e3, e4, e5, e6⟩ := TT_barr hs (c := z) (n := v.1 1 z) (j := 0) (x := v.1 1 z) (by omega) (by omega) (by decide)
    rw [gA_nk _ _ _ (show (3 : Nat) ≠ 29 by decide), lcA1 c1]
    refine RR_bdl e1 (RR_bdr e2 (RR_ckr (by decide) (RR_ckr (by omega) (RR_ckr (by decide) (RR_lmr (RR_ltl (RR_ltr ?_)))))))
    rw [w32s (by omega), e6.1 55 (by unfold PTm; omega), lmA1 m1]
    refine hnext _ _ ⟨e3, fun c h1 h2 => ?_⟩
    rw [e4, gA_nk _ _ _ (by decide), e5]; exact hk c h1 h2
  intro f f' s t ⟨hs, hk⟩
  have c1 := hs.c hc
  have m1 := hs.m hm
  show RR (k_X0_passTick_32 (f + 1) (nn v 0 : Int) s) (k_X12_goOn_29 (f' + 1) (nn v 0 : Int) t) _
  rw [k_X0_passTick_32, k_X12_goOn_29, lcN0 c1, lmN0 m1]
  refine RR_negl (by omega) (RR_negr (by omega) ?_)
  refine RR_loop (fun f z s => k_X0_passTick_84 f z s) (fun f z s => k_X12_goOn_72 f z s) _ (nn v 2) (fun z s t => STk μ0 ν0 s t ∧ mkE v s t) ?_ ?_ FU FU 0 s t (by omega) (FU_gt (by omega)) (FU_gt (by omega)) ⟨hs, hk⟩
  · intro f f' z s t hz ⟨hs, hk⟩ hnext
    have c1 := hs.c hc
    have m1 := hs.m hm
    have hr := hv.2.2.2.2.2.2.2.1 z hz
    obtain ⟨x, hxx⟩ : ∃ x, x = v.1 6 z := ⟨_, rfl⟩
    rw [← hxx] at hr
    have mk := (hk x (by omega) (by omega)).1
    show RR (k_X0_passTick_84 (f + 1) (z : Int) s) (k_X12_goOn_72 (f' + 1) (z : Int) t) _
    rw [k_X0_passTick_84, k_X12_goOn_72, lcN2 c1, lmN2 m1, lmA6 m1, lmA7 m1, lmA8 m1, lmA9 m1, ← hxx]
    obtain ⟨g, hg⟩ : ∃ g, g = if t.1 80 x < v.1 8 z then v.1 8 z else t.1 80 x := ⟨_, rfl⟩
    obtain ⟨μ', ν', r1, r2, r3, r4, r5⟩ := run_river hv c1 hs hz hxx mk hg
    refine RR_posl (by omega) (RR_posr (by omega) (RR_bdl r1 (RR_ltl (RR_ckr (by omega) (RR_ltr (RR_ckr (by omega) (RR_ckr (by omega) (RR_ckr (by omega) (RR_ckr (by omega) ?_)))))))))
    have fin : RR (k_X0_passTick_84 f (w32 ((z : Int) + 1)) μ') (k_X12_goOn_129 (k_X12_goOn_72 f') (z : Int) x (v.1 9 z) (v.1 7 z) g t) (fun _ μ' _ ν' => STk μ0 ν0 μ' ν') := by
      rw [r2, w32s (by omega)]
      exact hnext _ _ ⟨r3, fun c h1 h2 => by rw [r4, r5]; exact hk c h1 h2⟩
    by_cases q : t.1 80 x < v.1 8 z
    · rw [if_pos q] at hg
      rw [hg] at fin
      exact RR_posr q (RR_ckr (by omega) fin)
    · rw [if_neg q] at hg
      rw [hg] at fin
      exact RR_negr q (RR_ckr (by omega) fin)
  intro f f' s t ⟨hs, hk⟩
  have c1 := hs.c hc
  have m1 := hs.m hm
  show RR (k_X0_passTick_84 (f + 1) (nn v 2 : Int) s) (k_X12_goOn_72 (f' + 1) (nn v 2 : Int) t) _
  rw [k_X0_passTick_84, k_X12_goOn_72, lcN2 c1, lmN2 m1]
  refine RR_negl (by omega) (RR_negr (by omega) ?_)
  refine RR_loop (fun f z s => k_X0_passTick_111 f z s) (fun f z s => k_X12_goOn_184 f z s) _ (nn v 1) (fun z s t => STk μ0 ν0 s t ∧ mkE v s t) ?_ ?_ FU FU 0 s t (by omega) (FU_gt (by omega)) (FU_gt (by omega)) ⟨hs, hk⟩
  · intro f f' z s t hz ⟨hs, hk⟩ hnext
    have c1 := hs.c hc
    have m1 := hs.m hm
    have hr := hv.2.2.2.2.2.2.1 z hz
    obtain ⟨x, hxx⟩ : ∃ x, x = v.1 3 z := ⟨_, rfl⟩
    obtain ⟨y, hyy⟩ : ∃ y, y = v.1 4 z := ⟨_, rfl⟩
    rw [← hxx, ← hyy] at hr
    have mx := (hk x (by omega) (by omega)).1
    have my := (hk y (by omega) (by omega)).1
    obtain ⟨d, hd⟩ : ∃ d, d = w32 (Int.tdiv (w32 (v.1 5 z * w32 (t.1 80 x - t.1 80 y))) 100) := ⟨_, rfl⟩
    have db : -21474837 ≤ d ∧ d ≤ 21474837 := hd ▸ q100 _
    show RR (k_X0_passTick_111 (f + 1) (z : Int) s) (k_X12_goOn_184 (f' + 1) (z : Int) t) _
    rw [k_X0_passTick_111, k_X12_goOn_184, lcN1 c1, lmN1 m1, lmA3 m1, lmA4 m1, lmA5 m1, ← hxx, ← hyy, ← hd]
    refine RR_posl (by omega) (RR_posr (by omega) (RR_ckr (by omega) (RR_ckr (by omega) (RR_ckr (by omega) (RR_ckr (by omega) (RR_ckr (by omega) (RR_ckr (by decide) (RR_ltr ?_))))))))
    have ce : ∀ R, (if d < 0 then bd (f_X0_leave y (w32 (-d)) s) fun x8 μ9 => bd (f_X0_arrive x x8 μ9) fun _ μ11 => some ((0 : Int), μ11) else bd (f_X0_leave x d s) fun x4 μ5 => bd (f_X0_arrive y x4 μ5) fun _ μ7 => some ((0 : Int), μ7)) = R → f_X0_runLink (z : Int) s = R := fun R hR => by
      unfold f_X0_runLink lt
      rw [lcA3 c1, lcA4 c1, lcA5 c1, ← hxx, ← hyy]
      dsimp only
      rw [ck_pos (by omega), ck_pos (by omega), ck_pos (by omega), ck_pos (by omega), ck_pos (by omega), ck_pos (by decide), mx, my, ← hd]
      exact hR
    by_cases q : d < 0
    · obtain ⟨gg, μ', ν', e1, e2, e3, e4, e5, e6, e7, e8⟩ := TT_lev hs (c := y) (n := w32 (-d)) (by omega) (by rw [w32i (by omega) (by omega)]; omega)
      obtain ⟨μ2, ν2, a1, a2, a3, a4, a5⟩ := TT_arr e3 (c := x) (n := gg) (by omega) (by omega)
      refine RR_bdl (ce (some (0, μ2)) ?_) (RR_ltl (RR_posr q (RR_ckr (by omega) (RR_ckr (by omega) (RR_bdr e2 (RR_bdr a2 (RR_ltr ?_)))))))
      · rw [if_pos q, e1]
        unfold bd
        dsimp only
        rw [a1]
      · rw [w32s (by omega)]
        exact hnext _ _ ⟨a3, fun c h1 h2 => by rw [a4, a5, e5, e6]; exact hk c h1 h2⟩
    · obtain ⟨gg, μ', ν', e1, e2, e3, e4, e5, e6, e7, e8⟩ := TT_lev hs (c := x) (n := d) (by omega) (by omega)
      obtain ⟨μ2, ν2, a1, a2, a3, a4, a5⟩ := TT_arr e3 (c := y) (n := gg) (by omega) (by omega)
      refine RR_bdl (ce (some (0, μ2)) ?_) (RR_ltl (RR_negr q (RR_ckr (by omega) (RR_ckr (by omega) (RR_bdr e2 (RR_bdr a2 (RR_ltr ?_)))))))
      · rw [if_neg q, e1]
        unfold bd
        dsimp only
        rw [a1]
      · rw [w32s (by omega)]
        exact hnext _ _ ⟨a3, fun c h1 h2 => by rw [a4, a5, e5, e6]; exact hk c h1 h2⟩
  intro f f' s t ⟨hs, hk⟩
  have c1 := hs.c hc
  have m1 := hs.m hm
  show RR (k_X0_passTick_111 (f + 1) (nn v 1 : Int) s) (k_X12_goOn_184 (f' + 1) (nn v 1 : Int) t) _
  rw [k_X0_passTick_111, k_X12_goOn_184, lcN1 c1, lmN1 m1]
  refine RR_negl (by omega) (RR_negr (by omega) ?_)
  refine RR_loop (fun f z s => k_X0_passTick_138 f z s) (fun f z s => k_X12_goOn_284 f z s) _ (nn v 3) (fun z s t => STk μ0 ν0 s t ∧ mkE v s t) ?_ ?_ FU FU 0 s t (by omega) (FU_gt (by omega)) (FU_gt (by omega)) ⟨hs, hk⟩
  · intro f f' z s t hz ⟨hs, hk⟩ hnext
    have c1 := hs.c hc
    have m1 := hs.m hm
    have hr := hv.2.2.2.2.2.2.2.2.1 z hz
    obtain ⟨x, hxx⟩ : ∃ x, x = v.1 10 z := ⟨_, rfl⟩
    rw [← hxx] at hr
    have mx := (hk x (by omega) (by omega)).1
    have mb := (hk x (by omega) (by omega)).2
    obtain ⟨a, ha⟩ : ∃ a, a = w32 (t.1 80 x - v.1 11 z) := ⟨_, rfl⟩
    have ha2 := ha
    rw [w32i (by omega) (by omega)] at ha2
    obtain ⟨d, hd⟩ : ∃ d, d = w32 (Int.tdiv (w32 (v.1 12 z * mx0 a)) 100) := ⟨_, rfl⟩
    have db : -21474837 ≤ d ∧ d ≤ 21474837 := hd ▸ q100 _
    have d0 : 0 ≤ d := by
      have b1 := mx0_b (x := a) (b := 1000500) (by omega) (by omega)
      have b2 := mul_mono (a := v.1 12 z) (b := 9) (c := mx0 a) (d := 1000500) (by omega) b1.2 b1.1 (by omega)
      have b3 := Int.mul_nonneg (show 0 ≤ v.1 12 z by omega) b1.1
      have b4 : 0 ≤ Int.tdiv (v.1 12 z * mx0 a) 100 := by rw [tdiv_pos b3]; exact Int.ediv_nonneg b3 (by omega)
      have b5 := abs_tdiv (x := v.1 12 z * mx0 a) (D := 100) (b := 9004500) (by omega) (by omega)
      rw [hd, w32i (x := v.1 12 z * mx0 a) (by omega) (by omega), w32i (by omega) (by omega)]
      exact b4
    show RR (k_X0_passTick_138 (f + 1) (z : Int) s) (k_X12_goOn_284 (f' + 1) (z : Int) t) _
    rw [k_X0_passTick_138, k_X12_goOn_284, lcN3 c1, lmN3 m1, lmA10 m1, lmA11 m1, lmA12 m1, lcA10 c1, lcA11 c1, ← hxx, ← ha]
    have emax : f_J9_max_7cf53 0 a s = some (mx0 a, s) := by
      unfold f_J9_max_7cf53 mx0; split <;> rfl
    refine RR_posl (by omega) (RR_posr (by omega) (RR_ckl (by omega) (RR_ltl (RR_ckl (by omega) (RR_ckl (by omega) ?_)))))
    rw [mx, ← ha]
    refine RR_bdl emax (RR_ckl (by decide) (RR_ckl (by omega) (RR_ckl (by decide) ?_)))
    rw [lcA12 c1, ← hd]
    refine RR_ckr (by omega) (RR_ckr (by omega) (RR_ckr (by omega) (RR_ltr (RR_ckr (by decide) (RR_ckr (by omega) ?_)))))
    obtain ⟨gg, μ', ν', e1, e2, e3, e4, e5, e6, e7, e8⟩ := TT_lev hs (c := x) (n := d) (by omega) d0
    refine RR_bdl e1 (RR_ckl (by decide) (RR_lml (RR_ltl ?_)))
    have fin : RR (k_X0_passTick_138 f (w32 ((z : Int) + 1)) (gA μ' 29 3 (w64 (s.1 29 3 + gg)))) (k_X12_goOn_344 (k_X12_goOn_284 f') (z : Int) 3 (t.1 81 3) x d t) (fun _ μ' _ ν' => STk μ0 ν0 μ' ν') := by
      unfold k_X12_goOn_344
      refine RR_bdr e2 (RR_ckr (by decide) (RR_lmr (RR_ltr ?_)))
      rw [w32s (by omega), hs.2.2.2.1]
      refine hnext _ _ ⟨STk_book e3 (r64_w _), fun c h1 h2 => ?_⟩
      rw [gA_nk _ _ _ (by decide), gA_nk _ _ _ (by decide), e5, e6]; exact hk c h1 h2
    by_cases q : 0 < a
    · have ea : mx0 a = a := by unfold mx0; rw [if_pos q]
      rw [ea] at hd
      rw [hd] at fin
      exact RR_posr q (RR_ckr (by omega) (RR_ckr (by decide) fin))
    · have ea : mx0 a = 0 := by unfold mx0; rw [if_neg q]
      have ed : d = 0 := by rw [hd, ea, Int.mul_zero]; rfl
      rw [ed] at fin
      exact RR_negr q fin
  intro f f' s t ⟨hs, hk⟩
  have c1 := hs.c hc
  have m1 := hs.m hm
  show RR (k_X0_passTick_138 (f + 1) (nn v 3 : Int) s) (k_X12_goOn_284 (f' + 1) (nn v 3 : Int) t) _
  rw [k_X0_passTick_138, k_X12_goOn_284, lcN3 c1, lmN3 m1]
  refine RR_negl (by omega) (RR_negr (by omega) ?_)
  refine RR_loop (fun f z s => k_X0_passTick_229 f z s) (fun f z s => k_X12_goOn_358 f z s) _ (nn v 4) (fun z s t => STk μ0 ν0 s t) ?_ ?_ FU FU 0 s t (by omega) (FU_gt (by omega)) (FU_gt (by omega)) hs
  · intro f f' z s t hz hs hnext
    have c1 := hs.c hc
    have m1 := hs.m hm
    have hr := hv.2.2.2.2.2.2.2.2.2 z hz
    show RR (k_X0_passTick_229 (f + 1) (z : Int) s) (k_X12_goOn_358 (f' + 1) (z : Int) t) _
    rw [k_X0_passTick_229, k_X12_goOn_358, lcN4 c1, lmN4 m1, lcA13 c1, lcA16 c1, lmA13 m1, lmA16 m1]
    obtain ⟨gg, μ', ν', e1, e2, e3, e4, e5, e6, e7, e8⟩ := TT_lev hs (c := v.1 13 z) (n := v.1 16 z) (by omega) (by omega)
    refine RR_posl (by omega) (RR_posr (by omega) (RR_ckl (by decide) (RR_ckl (by omega) (RR_ckl (by omega) (RR_ckr (by decide) (RR_ckr (by omega) (RR_ckr (by omega) (RR_bdl e1 (RR_bdr e2 (RR_ckl (by decide) (RR_ckr (by decide) (RR_lml (RR_lmr (RR_ltl (RR_ltr ?_)))))))))))))))
    rw [w32s (by omega), hs.2.2.2.1]
    exact hnext _ _ (STk_book e3 (r64_w _))
  · intro f f' s t hs
    have c1 := hs.c hc
    have m1 := hs.m hm
    show RR (k_X0_passTick_229 (f + 1) (nn v 4 : Int) s) (k_X12_goOn_358 (f' + 1) (nn v 4 : Int) t) _
    rw [k_X0_passTick_229, k_X12_goOn_358, lcN4 c1, lmN4 m1]
    exact RR_negl (by omega) (RR_negr (by omega) (RR_some hs))
theorem allHeld_rr {v : LV} (hv : wfL v) {μ0 ν0 μ ν : GM} (hc : cV 22 μ0 = v) (hm : mV 59 70 ν0 = v) (h : STk μ0 ν0 μ ν) : RR (f_X0_allHeld μ) (k_X12_tick_41 FU 0 0 ν) (fun r μ' r' ν' => r' = r ∧ μ' = μ ∧ ν' = ν) := by
  have n0 := nn_c hv 0 (by omega)
  have l0 := hv.1
  have c1 := h.c hc
  have m1 := h.m hm
  unfold f_X0_allHeld
  refine RR_loop (fun f z (s : Int × GM) => k_X0_allHeld_4 f s.1 z s.2) (fun f z (s : Int × GM) => k_X12_tick_41 f s.1 z s.2) _ (nn v 0) (fun z s t => s.1 = t.1 ∧ s.2 = μ ∧ t.2 = ν) ?_ ?_ FU FU 0 (0, μ) (0, ν) (by omega) (FU_gt (by omega)) (FU_gt (by omega)) ⟨rfl, rfl, rfl⟩
  · intro f f' z s t hz ⟨h1, h2, h3⟩ hnext
    obtain ⟨s1, s2⟩ := s
    obtain ⟨t1, t2⟩ := t
    have h1' : s1 = t1 := h1
    have h2' : s2 = μ := h2
    have h3' : t2 = ν := h3
    subst h1'; subst h2'; subst h3'
    show RR (k_X0_allHeld_4 (f + 1) s1 (z : Int) s2) (k_X12_tick_41 (f' + 1) s1 (z : Int) t2) _
    rw [k_X0_allHeld_4, k_X12_tick_41, lcN0 c1, lmN0 m1, h.2.2.1]
    refine RR_posl (by omega) (RR_posr (by omega) (RR_ckl (by omega) (RR_ckr (by omega) (RR_ltl (RR_ltr (RR_ltl (RR_ltr ?_)))))))
    rw [w32s (by omega)]
    exact hnext (_, s2) (_, t2) ⟨rfl, rfl, rfl⟩
  · intro f f' s t ⟨h1, h2, h3⟩
    obtain ⟨s1, s2⟩ := s
    obtain ⟨t1, t2⟩ := t
    have h1' : s1 = t1 := h1
    have h2' : s2 = μ := h2
    have h3' : t2 = ν := h3
    subst h1'; subst h2'; subst h3'
    show RR (k_X0_allHeld_4 (f + 1) s1 (nn v 0 : Int) s2) (k_X12_tick_41 (f' + 1) s1 (nn v 0 : Int) t2) _
    rw [k_X0_allHeld_4, k_X12_tick_41, lcN0 c1, lmN0 m1]
    exact RR_negl (by omega) (RR_negr (by omega) (RR_some ⟨rfl, rfl, rfl⟩))
