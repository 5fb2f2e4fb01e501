/-! permits: whether one holds, as a number; the one side -/
def anyv (y al : Int → Int) (d : Int) : Int := if y d = 0 then (if al d = 0 then 0 else 1) else 1
def putA (al nt : Int → Int) (d z : Int) : Int → Int := if z = nt d then ups al d 0 else al
def hev (vl : Int → Int → Int) (sg : Int → Int) (N : Int) : Nat → Int → Int → (Int → Int) → (Int → Int) → (Int → Int) → Int
  | 0, _, _, _, _, _ => 0
  | n + 1, k, d, y, al, nt =>
    if k < N then
      if sg k = 33 then hev vl sg N n (k + 1) d y al (ups nt d (if nt d = 0 then 1 else 0))
      else if sg k = 40 then hev vl sg N n (k + 1) (d + 1) (ups y (d + 1) 0) (ups al (d + 1) 1) (ups nt (d + 1) 0)
      else if sg k = 41 then hev vl sg N n (k + 1) (d - 1) y (putA al nt (d - 1) (anyv y al d)) (ups nt (d - 1) 0)
      else if sg k = 124 then hev vl sg N n (k + 1) d (ups y d (anyv y al d)) (ups al d 1) nt
      else if sg k = 38 then hev vl sg N n (k + 1) d y al nt
      else hev vl sg N n (nmb sg N 7 (k + 3 + sgn sg k) 0).2 d y (putA al nt d (cmpv (sg (k + 2)) (vl (sg k) (sg (k + 1) - 48)) (wrd sg N k))) (ups nt d 0)
    else anyv y al d
def gst (v : LV) (sg : Int → Int) (N k d : Int) : Prop := ∃ a, gd v sg N k a d ∧ (a = 0 ∨ (5 ≤ a ∧ (k < N → ¬ (dgt (sg k) ∧ a < 11))))
def isCm (v : LV) (sg : Int → Int) (N k d : Int) : Prop := ltr (sg k) ∧ (dgt (sg (k + 1)) ∧ sg (k + 1) - 48 < cnt v (sg k)) ∧ k + 3 + sgn sg k < N ∧ k + 3 + sgn sg k < (nmb sg N 7 (k + 3 + sgn sg k) 0).2 ∧ (nmb sg N 7 (k + 3 + sgn sg k) 0).2 ≤ N ∧ gst v sg N (nmb sg N 7 (k + 3 + sgn sg k) 0).2 d ∧ ((nmb sg N 7 (k + 3 + sgn sg k) 0).2 < N → ¬ dgt (sg (nmb sg N 7 (k + 3 + sgn sg k) 0).2))
theorem gst_cases {v : LV} {sg : Int → Int} {N k d : Int} (h : gst v sg N k d) : (0 ≤ k ∧ k ≤ N ∧ 0 ≤ d ∧ d ≤ k) ∧ ((k = N ∧ d = 0) ∨ (k < N ∧ ((sg k = 33 ∧ gst v sg N (k + 1) d) ∨ (sg k = 40 ∧ gst v sg N (k + 1) (d + 1)) ∨ (sg k = 41 ∧ 0 < d ∧ gst v sg N (k + 1) (d - 1)) ∨ ((sg k = 38 ∨ sg k = 124) ∧ gst v sg N (k + 1) d) ∨ isCm v sg N k d))) := by
  obtain ⟨a, h1, h2⟩ := h
  have h0 := h1
  obtain ⟨m, l, g1, g2, g3, g4, g5⟩ := h1
  refine ⟨⟨g2, by omega, g3, g4⟩, ?_⟩
  rcases h2 with e | ⟨e1, e2⟩
  · subst e
    obtain ⟨q1, q2⟩ := gd_one h0
    refine Or.inr ⟨q1, ?_⟩
    rcases q2 with ⟨q, r⟩ | ⟨q, r⟩ | ⟨q, m', r1, r2⟩
    · exact Or.inl ⟨q, 0, r, Or.inl rfl⟩
    · exact Or.inr (Or.inl ⟨q, 0, r, Or.inl rfl⟩)
    · obtain ⟨t1, t2, t3, t4, a', t5, t6, t7⟩ := gd_cmp g2 ⟨g3, g4⟩ r1 r2
      exact Or.inr (Or.inr (Or.inr (Or.inr ⟨q, t1, t2, t3, t4, ⟨a', t6, Or.inr ⟨t5, fun w z => t7 w z.1⟩⟩, t7⟩)))
  · by_cases q : k < N
    · refine Or.inr ⟨q, ?_⟩
      rcases gd_beh h0 q e1 (e2 q) with ⟨r1, r2⟩ | ⟨r1, r2, r3⟩
      · exact Or.inr (Or.inr (Or.inr (Or.inl ⟨r1, 0, r2, Or.inl rfl⟩)))
      · exact Or.inr (Or.inr (Or.inl ⟨r1, r2, 20, r3, Or.inr ⟨by omega, fun _ z => by omega⟩⟩))
    · have : k = N := by omega
      subst this
      exact Or.inl ⟨rfl, (gd_end h0).2⟩
def PHc : Nat → Prop := fun k => k = 44 ∨ k = 45 ∨ k = 46
def cin (μ s : GM) (k d : Int) (y al nt : Int → Int) : Prop := ofr PHc FPc μ s ∧ s.2 42 10 = k ∧ s.2 42 4 = d ∧ ∀ j, 0 ≤ j → j ≤ d → s.1 44 j = y j ∧ s.1 45 j = al j ∧ s.1 46 j = nt j
theorem gA_if {s : GM} {k : Nat} {i x j : Int} : (gA s k i x).1 k j = if j = i then x else s.1 k j := congrFun (upd_fun rfl) j
theorem cput {μ s : GM} {k d z : Int} {y al nt : Int → Int} (h : cin μ s k d y al nt) (hd : 0 ≤ d ∧ d < 201) : ∃ s', f_X4_put z s = some (0, s') ∧ cin μ s' k d y (putA al nt d z) (ups nt d 0) := by
  obtain ⟨o, e1, e2, e3⟩ := h
  have p45 : PHc 45 := by unfold PHc; omega
  have p46 : PHc 46 := by unfold PHc; omega
  unfold f_X4_put putA lm
  rw [e2, ck_pos hd, (e3 d hd.1 (by omega)).2.2]
  by_cases q : z = nt d
  · rw [if_pos q, if_pos q, ck_pos hd]
    dsimp only
    rw [gA_2, e2, ck_pos hd]
    refine ⟨_, rfl, (o.a p45).a p46, e1, e2, fun j h1 h2 => ?_⟩
    rw [gA_nk _ _ _ (by decide), gA_nk _ _ _ (by decide), gA_nk _ _ _ (by decide), gA_if, gA_if, gA_nk _ _ _ (by decide), (e3 j h1 h2).1, (e3 j h1 h2).2.1, (e3 j h1 h2).2.2]
    exact ⟨rfl, rfl, rfl⟩
  · rw [if_neg q, if_neg q, ck_pos hd]
    refine ⟨_, rfl, o.a p46, e1, e2, fun j h1 h2 => ?_⟩
    rw [gA_nk _ _ _ (by decide), gA_nk _ _ _ (by decide), gA_if, (e3 j h1 h2).1, (e3 j h1 h2).2.1, (e3 j h1 h2).2.2]
    exact ⟨rfl, rfl, rfl⟩
theorem cnext {μ s : GM} {k d N : Int} {sg y al nt : Int → Int} (h : cin μ s k d y al nt) (hN : μ.2 42 2 = N) (hs : μ.1 43 = sg) (hb : N ≤ 200) (hk : 0 ≤ k ∧ k < N) : ∃ s', f_X4_nextSign s = some (sg k, s') ∧ cin μ s' (k + 1) d y al nt ∧ s'.2 42 6 = s.2 42 6 := by
  obtain ⟨o, e1, e2, e3⟩ := h
  unfold f_X4_nextSign lm
  rw [e1, show s.2 42 2 = N from (o.2 42 2 (by unfold FPc; omega)).trans hN, if_pos hk.2, w32i (by omega) (by omega)]
  dsimp only
  rw [gF_1, show s.1 43 = sg from (o.1 43 (by unfold PHc; omega)).trans hs, ck_pos (by omega)]
  refine ⟨_, rfl, ⟨o.f ⟨rfl, by omega⟩, gF_same _ _ _ _, ?_, e3⟩, gF_ne _ _ (by omega)⟩
  rw [gF_ne _ _ (by omega)]; exact e2
theorem cask {b : Nat} {v : LV} {μ s : GM} {k d N p : Int} {sg y al nt : Int → Int} (hv : wfL v) (hc : cV b μ = v) (hb2 : ¬ PHc b) (ra : restAt v 94 μ p) (hN : μ.2 42 2 = N) (hs : μ.1 43 = sg) (hb : N ≤ 200) (hk : 0 ≤ k) (g : isCm v sg N k d) (h : cin μ s (k + 1) d y al nt) :
    ∃ s', f_X4_ask b (sg k) s = some (cmpv (sg (k + 2)) (vlu v p (sg k) (sg (k + 1) - 48)) (wrd sg N k), s') ∧ cin μ s' (nmb sg N 7 (k + 3 + sgn sg k) 0).2 d y al nt := by
  obtain ⟨t1, t2, t3, t4, t5, -, -⟩ := g
  have t6 := sgn01 sg k
  have t2' := t2.1
  unfold dgt at t2'
  unfold f_X4_ask
  have h0 : cin μ (gF s 42 6 (sg k)) (k + 1) d y al nt := by
    obtain ⟨o, e1, e2, e3⟩ := h
    exact ⟨o.f ⟨rfl, by omega⟩, by rw [gF_ne _ _ (by omega)]; exact e1, by rw [gF_ne _ _ (by omega)]; exact e2, e3⟩
  obtain ⟨s1, a1, a2, a3⟩ := cnext h0 hN hs hb (by omega)
  obtain ⟨s2, b1, b2, b3⟩ := cnext a2 hN hs hb (by omega)
  rw [gF_same] at a3
  unfold lm lt
  dsimp only
  rw [a1, bdS_eq, b1, bdS_eq, w32i (by omega) (by omega)]
  have hc2 : cV b s2 = v := (cV_keep b2.1 (fun k hk => by unfold PHc; omega) (fun k j hk => by unfold FPc; omega) hb2).trans hc
  have r2 : restAt v 94 s2 p := ⟨ra.1, ra.2.1, ra.2.2.1, by rw [b2.1.2 94 7 (by unfold FPc; omega)]; exact ra.2.2.2.1, by rw [b2.1.2 94 8 (by unfold FPc; omega)]; exact ra.2.2.2.2.1, fun c hc => by rw [b2.1.1 (94 + 5) (by unfold PHc; omega)]; exact ra.2.2.2.2.2 c hc⟩
  have h6 : s2.2 42 6 = sg k := b3.trans a3
  rw [there_eq hv hc2 h6 (by omega), bdS_eq, if_pos t2.2, if_neg (by decide), cval hv hc2 r2 h6 ⟨by omega, t2.2⟩, bdS_eq]
  obtain ⟨o, e1, e2, e3⟩ := b2
  obtain ⟨s3, c1, c2, c3⟩ := cread (k := k) hb hk (by omega) ((o.1 43 (by unfold PHc; omega)).trans hs) ((o.2 42 2 (by unfold FPc; omega)).trans hN) (by rw [e1]; omega)
  rw [c1, bdS_eq, show k + 1 + 1 = k + 2 by omega]
  have fin : cin μ s3 (nmb sg N 7 (k + 3 + sgn sg k) 0).2 d y al nt := by
    refine ⟨o.trans (c2.mono (fun k hk => hk.elim) (fun k j hk => by unfold FPl at hk; unfold FPc; omega)), c3, by rw [c2.2 42 4 (by unfold FPl; omega)]; exact e2, fun j h1 h2 => ?_⟩
    rw [c2.1 44 (fun z => z), c2.1 45 (fun z => z), c2.1 46 (fun z => z)]
    exact e3 j h1 h2
  refine ⟨s3, ?_, fin⟩
  unfold cmpv
  by_cases q1 : sg (k + 2) = 60
  · rw [if_pos q1, if_pos q1]; split <;> rfl
  rw [if_neg q1, if_neg q1]
  by_cases q2 : sg (k + 2) = 62
  · rw [if_pos q2, if_pos q2]; split <;> rfl
  rw [if_neg q2, if_neg q2]; split <;> rfl
