/-! the next test -/
noncomputable def bst (v : LV) (μ : GM) (S : Int) (N : Nat) : Nat → Option Nat
  | 0 => none
  | z + 1 => if μ.1 84 (z : Int) = 0 then (match bst v μ S N z with
      | none => some z
      | some b => if mon v μ S z N N < mon v μ S b N N then some z else some b) else bst v μ S N z
noncomputable def bsI (o : Option Nat) : Int := match o with
  | none => -10000009
  | some b => (b : Int)
theorem bst_lt (v : LV) (μ : GM) (S : Int) (N : Nat) : ∀ z b, bst v μ S N z = some b → b < z
  | 0, b, h => by cases h
  | z + 1, b, h => by
    unfold bst at h
    split at h
    · cases e : bst v μ S N z with
      | none => rw [e] at h; cases h; omega
      | some k =>
        rw [e] at h
        have := bst_lt v μ S N z k e
        dsimp only at h
        split at h
        · cases h; omega
        · cases h; omega
    · have := bst_lt v μ S N z b h; omega
theorem cnext_spec {v : LV} {μ s : GM} (h : InvV v μ) (sc : ScOK v μ s) {N : Nat} (hN : μ.2 31 2 = N) {S : Int} (hS : setL v μ S N) (hr : RowC v μ s N) : Rt (k_X10_nextTest_20 FU S (-10000009) 0 0 s) (fun r s' => r = bsI (bst v μ S N (nn v 0)) ∧ s' = s) := by
  have hv := h.1.2.2.1
  have n0 := nn_c hv 0 (by omega)
  have l0 := hv.1
  have is := h.sc sc
  have si := h.2.2.2.2.2.1
  have e35 := (sc_arr sc).2.2.2.1
  refine Rt_loop (fun f z (q : Int × Int × GM) => k_X10_nextTest_20 f S q.1 q.2.1 z q.2.2) _ (nn v 0) (fun z q => q.2.2 = s ∧ q.1 = bsI (bst v μ S N z) ∧ ∀ b, bst v μ S N z = some b → q.2.1 = mon v μ S b N N) ?_ ?_ FU 0 (-10000009, 0, s) (by omega) (FU_gt (by omega)) ⟨rfl, rfl, fun b hb => by cases hb⟩
  · intro f z q hz ⟨e1, e2, e3⟩ hnext
    obtain ⟨b, m, s2⟩ := q
    have e1' : s2 = s := e1
    have e2' : b = bsI (bst v μ S N z) := e2
    have e3' : ∀ b, bst v μ S N z = some b → m = mon v μ S b N N := e3
    subst e1'; subst e2'
    show Rt (k_X10_nextTest_20 (f + 1) S _ m (z : Int) s2) _
    rw [k_X10_nextTest_20, lcN0 is.1.1]
    refine Rt_pos (by omega) ?_
    have sz := (si.2 (z : Int)).2
    have st : bst v μ S N (z + 1) = if μ.1 84 (z : Int) = 0 then (match bst v μ S N z with
      | none => some z
      | some b => if mon v μ S z N N < mon v μ S b N N then some z else some b) else bst v μ S N z := rfl
    by_cases q : s2.1 35 (z : Int) < 0
    · have ei : f_X10_isSeen (z : Int) s2 = some (0, s2) := by unfold f_X10_isSeen; rw [ck_pos (by omega), if_pos q]; rfl
      rw [e35] at q
      have e84 : μ.1 84 (z : Int) = 0 := by omega
      rw [if_pos e84] at st
      refine Rt_bde ei (Rt_pos rfl (Rt_bd (calike_spec h sc hN hS hr hz) (fun r s3 ⟨f1, f2⟩ => ?_)))
      subst f1; subst f2
      cases e : bst v μ S N z with
      | none =>
        rw [e] at st
        refine Rt_pos rfl (Rt_lt ?_)
        rw [w32s (by omega)]
        refine hnext ((z : Int), _, s3) ⟨rfl, ?_, fun b hb => ?_⟩
        · rw [st]; rfl
        · rw [st] at hb; cases hb; rfl
      | some k =>
        rw [e] at st
        dsimp only at st
        have em := e3' k e
        refine Rt_neg (by show ¬ (k : Int) = -10000009; omega) ?_
        rw [em]
        refine Rt_if (fun g => Rt_lt ?_) (fun g => Rt_lt ?_)
        · rw [if_pos g] at st
          rw [w32s (by omega)]
          refine hnext ((z : Int), _, s3) ⟨rfl, ?_, fun b hb => ?_⟩
          · rw [st]; rfl
          · rw [st] at hb; cases hb; rfl
        · rw [if_neg g] at st
          rw [w32s (by omega)]
          refine hnext ((k : Int), _, s3) ⟨rfl, ?_, fun b hb => ?_⟩
          · rw [st]; rfl
          · rw [st] at hb; cases hb; rfl
    · have ei : f_X10_isSeen (z : Int) s2 = some (1, s2) := by unfold f_X10_isSeen; rw [ck_pos (by omega), if_neg q]; rfl
      rw [e35] at q
      rw [if_neg (by omega)] at st
      refine Rt_bde ei (Rt_neg (by decide) (Rt_lt ?_))
      rw [w32s (by omega)]
      refine hnext (bsI (bst v μ S N z), m, s2) ⟨rfl, by rw [st], fun b hb => ?_⟩
      rw [st] at hb
      exact e3' b hb
  · intro f q ⟨e1, e2, e3⟩
    obtain ⟨b, m, s2⟩ := q
    have e1' : s2 = s := e1
    have e2' : b = bsI (bst v μ S N (nn v 0)) := e2
    subst e1'
    show Rt (k_X10_nextTest_20 (f + 1) S b m (nn v 0 : Int) s2) _
    rw [k_X10_nextTest_20, lcN0 is.1.1]
    exact Rt_neg (by omega) (Rt_some ⟨e2', rfl⟩)
theorem mnext_spec {v : LV} {μ s : GM} (h : InvV v μ) (o : ofr PM FM μ s) {N : Nat} (hN : μ.2 31 2 = N) {S : Int} (hS0 : S ≠ 0) (hS : setL v μ S N) (hr : RowM v μ s N) : Rt (k_X12_next_15 FU S (-10000009) 0 s) (fun r s' => r = bsI (bst v μ S N (nn v 0)) ∧ s' = s) := by
  have hv := h.1.2.2.1
  have n0 := nn_c hv 0 (by omega)
  have l0 := hv.1
  have is := h.sc ((ScOK.refl h).m o)
  have e84 : s.1 84 = μ.1 84 := o.1 84 (by unfold PM; omega)
  refine Rt_loop (fun f z (q : Int × GM) => k_X12_next_15 f S q.1 z q.2) _ (nn v 0) (fun z q => q.2 = s ∧ q.1 = bsI (bst v μ S N z)) ?_ ?_ FU 0 (-10000009, s) (by omega) (FU_gt (by omega)) ⟨rfl, rfl⟩
  · intro f z q hz ⟨e1, e2⟩ hnext
    obtain ⟨b, s2⟩ := q
    have e1' : s2 = s := e1
    have e2' : b = bsI (bst v μ S N z) := e2
    subst e1'; subst e2'
    show Rt (k_X12_next_15 (f + 1) S _ (z : Int) s2) _
    rw [k_X12_next_15, lmN0 is.1.2.1, e84]
    refine Rt_pos (by omega) (Rt_neg hS0 (Rt_ck (by omega) ?_))
    have st : bst v μ S N (z + 1) = if μ.1 84 (z : Int) = 0 then (match bst v μ S N z with
      | none => some z
      | some b => if mon v μ S z N N < mon v μ S b N N then some z else some b) else bst v μ S N z := rfl
    by_cases q : μ.1 84 (z : Int) = 0
    · refine Rt_pos q ?_
      rw [if_pos q] at st
      cases e : bst v μ S N z with
      | none =>
        rw [e] at st
        refine Rt_pos rfl (Rt_lt ?_)
        rw [w32s (by omega)]
        refine hnext ((z : Int), s2) ⟨rfl, ?_⟩
        rw [st]; rfl
      | some k =>
        rw [e] at st
        dsimp only at st
        have kl := bst_lt v μ S N z k e
        refine Rt_neg (by show ¬ (k : Int) = -10000009; omega) (Rt_bde (malike_spec h o hN hS hr hz) (Rt_bde (malike_spec h o hN hS hr (c := k) (by omega)) ?_))
        refine Rt_if (fun g => Rt_lt ?_) (fun g => Rt_lt ?_)
        · rw [if_pos g] at st
          rw [w32s (by omega)]
          refine hnext ((z : Int), s2) ⟨rfl, ?_⟩
          rw [st]; rfl
        · rw [if_neg g] at st
          rw [w32s (by omega)]
          refine hnext ((k : Int), s2) ⟨rfl, ?_⟩
          rw [st]; rfl
    · refine Rt_neg q (Rt_lt ?_)
      rw [if_neg q] at st
      rw [w32s (by omega)]
      refine hnext (bsI (bst v μ S N z), s2) ⟨rfl, ?_⟩
      rw [st]
  · intro f q ⟨e1, e2⟩
    obtain ⟨b, s2⟩ := q
    have e1' : s2 = s := e1
    have e2' : b = bsI (bst v μ S N (nn v 0)) := e2
    subst e1'
    show Rt (k_X12_next_15 (f + 1) S b (nn v 0 : Int) s2) _
    rw [k_X12_next_15, lmN0 is.1.2.1]
    exact Rt_neg (by omega) (Rt_some ⟨e2', rfl⟩)
theorem bst_k {v : LV} {μ ν : GM} (sc : ScOK v μ ν) (S : Int) (N : Nat) : ∀ z, bst v ν S N z = bst v μ S N z := by
  intro z
  induction z with
  | zero => rfl
  | succ z ih =>
    unfold bst
    rw [ih, sc.1.1 84 (by unfold PSc; omega)]
    simp only [mon_k sc]
theorem ok_next {v : LV} {μ : GM} (h : InvV v μ) : PrOK f_X11_next f_X12_next μ := by
  have hv := h.1.2.2.1
  have n0 := nn_c hv 0 (by omega)
  have w5 := h.2.2.2.2.1.2.1
  obtain ⟨N, hN⟩ : ∃ N : Nat, μ.2 31 2 = N := ⟨(μ.2 31 2).toNat, by omega⟩
  unfold PrOK f_X11_next f_X10_nextTest
  have cls : Rt (bd (f_X10_thatAreLeft μ) fun x1 μ2 => if x1 = 0 then some ((-10000009 : Int), μ2) else k_X10_nextTest_20 FU x1 (-10000009) 0 0 μ2) (fun r s => ScOK v μ s ∧ ∃ S, setL v μ S N ∧ r = if S = 0 then -10000009 else bsI (bst v μ S N (nn v 0))) := by
    refine Rt_bd (left_spec h hN) (fun S s ⟨sc, hs, hr⟩ => ?_)
    refine Rt_if (fun e => Rt_some ⟨sc, S, hs, by rw [if_pos e]⟩) (fun e => (cnext_spec h sc hN hs hr).mono (fun r s2 ⟨f1, f2⟩ => ⟨by rw [f2]; exact sc, S, hs, by rw [if_neg e]; exact f1⟩))
  refine Rt_bd cls (fun r s ⟨sc, S, hs, er⟩ => Rt_some ?_)
  have i1 := h.sc sc
  obtain ⟨j1, t1⟩ := inv_thr i1
  have sc2 := sc.trans t1
  have hN2 : (gF s 53 0 0).2 31 2 = N := by rw [(sc_arr sc2).2.2.2.2]; exact hN
  unfold f_X12_next
  refine Rt_lm (Rt_bd (mleft_spec j1 hN2) (fun S2 s3 ⟨o3, g3, r3⟩ => ?_))
  have eS := setL_eq sc2 hs g3
  subst eS
  have i3 := j1.sc ((ScOK.refl j1).m o3)
  by_cases e : S2 = 0
  · rw [if_pos e] at er
    rw [er]
    show Rt (k_X12_next_15 (4999 + 1) S2 (-10000009) 0 s3) _
    rw [k_X12_next_15]
    exact Rt_if (fun _ => Rt_pos e (Rt_some ⟨rfl, v, i3⟩)) (fun _ => Rt_some ⟨rfl, v, i3⟩)
  · rw [if_neg e] at er
    refine (mnext_spec j1 o3 hN2 e g3 r3).mono (fun r4 s4 ⟨f1, f2⟩ => ⟨?_, v, by rw [f2]; exact i3⟩)
    rw [f1, er, bst_k sc2]
