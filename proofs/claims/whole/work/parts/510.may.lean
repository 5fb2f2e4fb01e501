/-! plans: what may be -/
theorem fvf_wrt {v : LV} {f : Int → Int} {sg : Int → Int} {N : Int} : ∀ (m : Nat) (k a d l : Int), fvf (wrt v f) sg N m k a d l = fvf v sg N m k a d l
  | 0, k, a, d, l => rfl
  | m + 1, k, a, d, l => by
    rw [fvf, fvf, show stp (wrt v f) a d l (sg k) = stp v a d l (sg k) from rfl]
    cases stp v a d l (sg k) with
    | none => rfl
    | some q => exact fvf_wrt m (k + 1) q.1 q.2.1 q.2.2
theorem FV_wrt {v : LV} {f : Int → Int} {sg : Int → Int} {N : Int} : FV (wrt v f) sg N = FV v sg N := fvf_wrt _ _ _ _ _
theorem hev_co {v : LV} {sg : Int → Int} {N : Int} {a b : Int → Int → Int} (e : ∀ l z, 0 ≤ z → z < cnt v l → a l z = b l z) : ∀ (n : Nat) (k d : Int) (y al nt : Int → Int), gst v sg N k d → hev a sg N n k d y al nt = hev b sg N n k d y al nt
  | 0, k, d, y, al, nt, g => rfl
  | n + 1, k, d, y, al, nt, g => by
    obtain ⟨gb, gc⟩ := gst_cases g
    rw [hev, hev]
    by_cases hk : k < N
    · rw [if_pos hk, if_pos hk]
      have gc : ((sg k = 33 ∧ gst v sg N (k + 1) d) ∨ (sg k = 40 ∧ gst v sg N (k + 1) (d + 1)) ∨ (sg k = 41 ∧ 0 < d ∧ gst v sg N (k + 1) (d - 1)) ∨ ((sg k = 38 ∨ sg k = 124) ∧ gst v sg N (k + 1) d) ∨ isCm v sg N k d) := by
        rcases gc with ⟨g1, g2⟩ | ⟨_, gc⟩
        · omega
        · exact gc
      by_cases q1 : sg k = 33
      · rw [if_pos q1, if_pos q1]
        rcases gc with ⟨q, r⟩ | ⟨q, r⟩ | ⟨q, r⟩ | ⟨q, r⟩ | ⟨q, r⟩
        · exact hev_co e n _ _ _ _ _ r
        all_goals (first | omega | (unfold ltr at q; omega))
      rw [if_neg q1, if_neg q1]
      by_cases q2 : sg k = 40
      · rw [if_pos q2, if_pos q2]
        rcases gc with ⟨q, r⟩ | ⟨q, r⟩ | ⟨q, r⟩ | ⟨q, r⟩ | ⟨q, r⟩
        · omega
        · exact hev_co e n _ _ _ _ _ r
        all_goals (first | omega | (unfold ltr at q; omega))
      rw [if_neg q2, if_neg q2]
      by_cases q3 : sg k = 41
      · rw [if_pos q3, if_pos q3]
        rcases gc with ⟨q, r⟩ | ⟨q, r⟩ | ⟨q, r⟩ | ⟨q, r⟩ | ⟨q, r⟩
        · omega
        · omega
        · exact hev_co e n _ _ _ _ _ r.2
        all_goals (first | omega | (unfold ltr at q; omega))
      rw [if_neg q3, if_neg q3]
      by_cases q4 : sg k = 124
      · rw [if_pos q4, if_pos q4]
        rcases gc with ⟨q, r⟩ | ⟨q, r⟩ | ⟨q, r⟩ | ⟨q, r⟩ | ⟨q, r⟩
        · omega
        · omega
        · omega
        · exact hev_co e n _ _ _ _ _ r
        · unfold ltr at q; omega
      rw [if_neg q4, if_neg q4]
      by_cases q5 : sg k = 38
      · rw [if_pos q5, if_pos q5]
        rcases gc with ⟨q, r⟩ | ⟨q, r⟩ | ⟨q, r⟩ | ⟨q, r⟩ | ⟨q, r⟩
        · omega
        · omega
        · omega
        · exact hev_co e n _ _ _ _ _ r
        · unfold ltr at q; omega
      rw [if_neg q5, if_neg q5]
      have g' : isCm v sg N k d := by
        rcases gc with ⟨q, r⟩ | ⟨q, r⟩ | ⟨q, r⟩ | ⟨q, r⟩ | r
        · omega
        · omega
        · omega
        · omega
        · exact r
      obtain ⟨t1, t2, t3, t4, t5, t6, t7⟩ := g'
      have t2' := t2.1
      unfold dgt at t2'
      rw [e (sg k) (sg (k + 1) - 48) (by omega) t2.2]
      exact hev_co e n _ _ _ _ _ t6
    · rw [if_neg hk, if_neg hk]
theorem vlu_co {v : LV} (hv : wfL v) {f g : Int → Int} (h : ∀ k : Nat, k < nn v 4 → f k = g k) (p l z : Int) (h0 : 0 ≤ z) (hz : z < cnt v l) : vlu (wrt v f) p l z = vlu (wrt v g) p l z := by
  have q := veq_wrt h
  have u : upv (wrt v f) p = upv (wrt v g) p := (veq_up q p).symm
  have n4 := nn_c hv 4 (by omega)
  unfold vlu
  unfold cnt at hz
  have e1 : tak (wrt v f) p z.toNat = tak (wrt v g) p z.toNat := by unfold tak; rw [u]; rfl
  have e2 : giv (wrt v f) p z.toNat = giv (wrt v g) p z.toNat := by unfold giv; rw [u]; rfl
  have e3 : flo (wrt v f) p z.toNat = flo (wrt v g) p z.toNat := by unfold flo; rw [u]; rfl
  have ed : detv (wrt v f) p = detv (wrt v g) p := rfl
  rw [e1, e2, e3, u, ed]
  by_cases q4 : l = 113
  · subst q4
    rw [if_neg (by decide), if_neg (by decide), if_neg (by decide), if_pos rfl] at hz
    have := h z.toNat (by omega)
    rw [show ((z.toNat : Nat) : Int) = z by omega] at this
    rw [show (wrt v f).1 16 z = f z from rfl, show (wrt v g).1 16 z = g z from rfl, this]
  · rw [if_neg q4, if_neg q4]
theorem HV_co {v : LV} (hv : wfL v) {f g : Int → Int} (h : ∀ k : Nat, k < nn v 4 → f k = g k) {p N : Int} {sg : Int → Int} (gs : gst v sg N 0 0) : HV (wrt v f) p sg N = HV (wrt v g) p sg N := hev_co (v := v) (fun l z a b => vlu_co hv h p l z a b) _ _ _ _ _ _ gs
def mayP (v : LV) (lim sg : Int → Int) (N : Int) (f : Int → Int) : Prop :=
  hasR (wrt v f) ∧ (∀ c : Nat, c < nn v 0 → dryv (wrt v f) (thP (wrt v f)) c = 0 ∧ (lim c = -10000009 ∨ lim c ≤ wM (wrt v f) c)) ∧ (0 < N ∧ FV v sg N = -10000009 → HV (wrt v f) (thP (wrt v f)) sg N ≠ 0)
def ClC (v : LV) (N : Int) (sg lim : Int → Int) (μ : GM) : Prop := cV 22 μ = v ∧ RA v μ ∧ okp v (μ.2 132 8) ∧ μ.2 42 2 = N ∧ μ.1 43 = sg ∧ μ.1 48 = lim
theorem ClC.sc {v : LV} {N : Int} {sg lim : Int → Int} {μ s : GM} (h : ClC v N sg lim μ) (k : ScOK v μ s) : ClC v N sg lim s := by
  obtain ⟨a1, a2, a3, a4, a5, a6⟩ := h
  obtain ⟨k1, k2, k3, k4⟩ := k
  refine ⟨?_, ⟨?_, k2, k3⟩, k4, ?_, ?_, ?_⟩
  · exact (cV_keep k1 (fun k hk => by unfold PSc; omega) (fun k j hk => by unfold FSc; omega) (by unfold PSc; omega)).trans a1
  · rw [k1.2 94 1 (by unfold FSc; omega)]; exact a2.1
  · rw [k1.2 42 2 (by unfold FSc; omega)]; exact a4
  · rw [k1.1 43 (by unfold PSc; omega)]; exact a5
  · rw [k1.1 48 (by unfold PSc; omega)]; exact a6
theorem ClC.rf {v : LV} {N : Int} {sg lim : Int → Int} {μ : GM} (h : ClC v N sg lim μ) : ScOK v μ μ := ⟨ofr.rfl, h.2.1.2.1, h.2.1.2.2, h.2.2.1⟩
theorem InvV.clc {v : LV} {μ : GM} (h : InvV v μ) : ClC v (μ.2 42 2) (μ.1 43) (μ.1 48) μ := ⟨h.1.1, h.2.1, h.2.2.1.2, rfl, rfl, rfl⟩
theorem ScOK.o {v : LV} {μ s t : GM} (h : ScOK v μ s) {P : Nat → Prop} {F : Nat → Nat → Prop} (o : ofr P F s t) (hP : ∀ k, P k → PSc k ∧ k < 94) (hF : ∀ k j, F k j → FSc k j ∧ k < 94) : ScOK v μ t := by
  refine ⟨h.1.trans (o.mono (fun k hk => (hP k hk).1) (fun k j hk => (hF k j hk).1)), cache_keep h.2.1 ?_ ?_ (fun z _ => ?_), ?_, ?_⟩
  · exact o.1 _ (fun z => by have := (hP _ z).2; omega)
  · exact o.1 _ (fun z => by have := (hP _ z).2; omega)
  · exact o.1 _ (fun z => by have := (hP _ z).2; omega)
  · rw [o.2 94 8 (fun z => by have := (hF _ _ z).2; omega)]; exact h.2.2.1
  · rw [o.2 132 8 (fun z => by have := (hF _ _ z).2; omega)]; exact h.2.2.2
theorem settleC {v : LV} {N : Int} {sg lim : Int → Int} {s : GM} {f : Int → Int} (h : ClC v N sg lim s) (hf : wfL (wrt v f)) (e : ∀ w : Nat, w < nn v 4 → s.1 51 w = f w) : Rt (f_X6_settle 94 51 s) (fun r s2 => ScOK v s s2 ∧ ofr (PR 94) (FR 94) s s2 ∧ ((r = 1 ∧ ∃ p, restAt (wrt v f) 94 s2 p) ∨ (r = 0 ∧ ¬ hasR (wrt v f)))) := by
  refine (settle_v (t := 94) (b := 51) gRt_A hf (by omega) (by rw [cV_wrt h.1 51]; exact veq_wrt (fun k hk => (e k hk).symm)) ?_ h.2.1.2.1 ?_).mono (fun r s2 ⟨k1, k2, k3, k4⟩ => ⟨⟨?_, k2, k3, ?_⟩, k1, k4⟩)
  · exact h.2.1.1
  · exact h.2.1.2.2
  · exact k1.mono (fun k hk => by unfold PR at hk; unfold PSc; omega) (fun k j hk => by unfold FR at hk; unfold FSc; omega)
  · rw [k1.2 132 8 (by unfold FR; omega)]; exact h.2.2.1
theorem cdryV {u : LV} {μ : GM} {p : Int} (hu : wfL u) (hx : wfX u) (e2 : μ.1 2 = u.1 0) (ra : restAt u 94 μ p) {c : Nat} (hcc : c < nn u 0) : f_X6_isDry 94 (c : Int) μ = some (dryv u p c, μ) := by
  have n0 := nn_c hu 0 (by omega)
  have l0 := hu.1
  have d := det_pos hu ra.2.2.1
  have bd := botD hx hcc d
  unfold f_X6_isDry dryv
  rw [ck_pos (by omega), ck_pos (by omega), ra.2.2.2.2.2 c hcc, e2, ra.2.2.2.1, w64i (by omega) (by omega)]
  split <;> rfl
theorem cmay {v : LV} {N : Int} {sg lim : Int → Int} {s : GM} {f : Int → Int} (hv : wfL v) (hN : 0 ≤ N ∧ N ≤ 200) (h : ClC v N sg lim s) (hf : wfL (wrt v f)) (hx : wfX (wrt v f)) (e : ∀ w : Nat, w < nn v 4 → s.1 51 w = f w) {a : Int} (ha : a = if 0 < N ∧ FV v sg N = -10000009 then 1 else 0) :
    Rt (f_X5_mayBe a s) (fun r s2 => ScOK v s s2 ∧ s2.1 49 = s.1 49 ∧ s2.1 50 = s.1 50 ∧ ((r = 1 ∧ mayP v lim sg N f) ∨ (r = 0 ∧ ¬ mayP v lim sg N f))) := by
  have n0 := nn_c hv 0 (by omega)
  have l0 := hv.1
  unfold f_X5_mayBe
  refine Rt_bd (settleC h hf e) (fun r s2 ⟨sc, o, ho⟩ => ?_)
  have e49 : s2.1 49 = s.1 49 := o.1 49 (by unfold PR; omega)
  have e50 : s2.1 50 = s.1 50 := o.1 50 (by unfold PR; omega)
  have e51 : s2.1 51 = s.1 51 := o.1 51 (by unfold PR; omega)
  rcases ho with ⟨r1, p, hp⟩ | ⟨r0, hn⟩
  · have h2 := h.sc sc
    have hR : hasR (wrt v f) := ⟨hp.1, p, hp.2.1, hp.2.2.1⟩
    have ep := thP_eq hf hp.2.1 hp.2.2.1
    have e2 : s2.1 2 = v.1 0 := lcA0 h2.1
    have e48 : s2.1 48 = lim := h2.2.2.2.2.2
    refine Rt_neg (by omega) ?_
    refine Rt_loop (fun f z s => k_X5_mayBe_18 f a z s) _ (nn v 0) (fun z t => t = s2 ∧ ∀ c : Nat, c < z → dryv (wrt v f) (thP (wrt v f)) c = 0 ∧ (lim c = -10000009 ∨ lim c ≤ wM (wrt v f) c)) ?_ ?_ FU 0 s2 (by omega) (FU_gt (by omega)) ⟨rfl, fun c hc => by omega⟩
    · intro fu z t hz ⟨et, ok⟩ hnext
      subst et
      show Rt (k_X5_mayBe_18 (fu + 1) a (z : Int) t) _
      rw [k_X5_mayBe_18, lcN0 h2.1]
      have ed := cdryV (p := p) hf hx e2 hp (c := z) hz
      have eh := wM_of hf hp (c := z) hz
      rw [ep] at ed
      have d01 := dry01 (wrt v f) (thP (wrt v f)) z
      refine Rt_pos (by omega) (Rt_bde ed ?_)
      have nx : dryv (wrt v f) (thP (wrt v f)) z = 0 → (lim z = -10000009 ∨ lim z ≤ wM (wrt v f) z) → Rt (k_X5_mayBe_18 fu a ((z + 1 : Nat) : Int) t) (fun r s2 => ScOK v s s2 ∧ s2.1 49 = s.1 49 ∧ s2.1 50 = s.1 50 ∧ ((r = 1 ∧ mayP v lim sg N f) ∨ (r = 0 ∧ ¬ mayP v lim sg N f))) := fun x1 x2 => hnext t ⟨rfl, fun c hc => by
          by_cases qc : c = z
          · subst qc; exact ⟨x1, x2⟩
          · exact ok c (by omega)⟩
      refine Rt_if (fun q => Rt_ck (by omega) ?_) (fun q => Rt_some ⟨sc, e49, e50, Or.inr ⟨rfl, fun m => q (m.2.1 z hz).1⟩⟩)
      rw [e48]
      refine Rt_if (fun g => Rt_lt ?_) (fun g => Rt_bde eh (Rt_ck (by omega) ?_))
      · rw [w32s (by omega)]; exact nx q (Or.inl g)
      · rw [e48]
        refine Rt_if (fun g2 => Rt_some ⟨sc, e49, e50, Or.inr ⟨rfl, fun m => ?_⟩⟩) (fun g2 => Rt_lt ?_)
        · rcases (m.2.1 z hz).2 with x | x
          · exact g x
          · omega
        · rw [w32s (by omega)]; exact nx q (Or.inr (by omega))
    · intro fu t ⟨et, ok⟩
      subst et
      show Rt (k_X5_mayBe_18 (fu + 1) a ((nn v 0 : Nat) : Int) t) _
      rw [k_X5_mayBe_18, lcN0 h2.1]
      refine Rt_neg (by omega) ?_
      by_cases q : 0 < N ∧ FV v sg N = -10000009
      · rw [if_pos q] at ha
        have ev : ∀ w : Nat, w < nn v 4 → f w = t.1 51 w := fun w hw => by rw [e51]; exact (e w hw).symm
        have ve := veq_wrt (v := v) ev
        refine Rt_neg (by omega) (Rt_bd (cheldW (b := 51) (v := wrt v (t.1 51)) (p := p) (veq_wf ve hf) (cV_wrt h2.1 51) (by unfold PHc; omega) (by rw [veq_restAt ve]; exact hp) h2.2.2.2.1 h2.2.2.2.2.1 hN (FV_gst hN.1 (FV_wrt.trans q.2))) (fun r3 s3 ⟨e3, o3⟩ => ?_))
        rw [← HV_co hv ev (FV_gst hN.1 q.2), ep] at e3
        have sc3 : ScOK v s s3 := sc.o o3 (fun k hk => by unfold PHc at hk; unfold PSc; omega) (fun k j hk => by unfold FPc at hk; unfold FSc; omega)
        have f49 : s3.1 49 = s.1 49 := by rw [o3.1 49 (by unfold PHc; omega)]; exact e49
        have f50 : s3.1 50 = s.1 50 := by rw [o3.1 50 (by unfold PHc; omega)]; exact e50
        rw [e3]
        exact Rt_if (fun c => Rt_some ⟨sc3, f49, f50, Or.inr ⟨rfl, fun m => m.2.2 q c⟩⟩) (fun c => Rt_some ⟨sc3, f49, f50, Or.inl ⟨rfl, hR, ok, fun _ => c⟩⟩)
      · rw [if_neg q] at ha
        exact Rt_pos ha (Rt_some ⟨sc, e49, e50, Or.inl ⟨rfl, hR, ok, fun z => absurd z q⟩⟩)
  · exact Rt_pos r0 (Rt_some ⟨sc, e49, e50, Or.inr ⟨rfl, fun m => hn m.1⟩⟩)
def PQ : Nat → Prop := fun k => PS k ∨ PHm k
theorem mmay {v : LV} {N : Int} {sg lim : Int → Int} {s : GM} {f : Int → Int} (hv : wfL v) (hN : 0 ≤ N ∧ N ≤ 200) (hm : veq (wrt v f) (mV 72 73 s)) (hf : wfL (wrt v f)) (hx : wfX (wrt v f)) (e44 : s.2 53 44 = N) (e88 : s.1 88 = sg) (e92 : s.1 92 = lim) {a : Int} (ha : a = if 0 < N ∧ FV v sg N = -10000009 then 1 else 0) :
    Rt (f_X12_mayBe a s) (fun r s2 => ofr PQ FS s s2 ∧ ((r = 1 ∧ mayP v lim sg N f) ∨ (r = 0 ∧ ¬ mayP v lim sg N f))) := by
  have n0 := nn_c hv 0 (by omega)
  have l0 := hv.1
  unfold f_X12_mayBe
  refine Rt_bd (solves_v hf hm) (fun r s2 ⟨o, ho⟩ => ?_)
  have oq : ofr PQ FS s s2 := o.mono (fun k hk => Or.inl hk) (fun _ _ z => z)
  have e1 : s2.2 53 1 = v.2 0 := by
    rw [o.2 53 1 (by unfold FS; omega)]
    exact (congrFun hm.2.1 0).symm
  have f44 : s2.2 53 44 = N := by rw [o.2 53 44 (by unfold FS; omega)]; exact e44
  have f88 : s2.1 88 = sg := by rw [o.1 88 (by unfold PS; omega)]; exact e88
  have f92 : s2.1 92 = lim := by rw [o.1 92 (by unfold PS; omega)]; exact e92
  have no : ∀ x : Int, ¬ mayP v lim sg N f → x = 0 → Rt (k_X12_mayBe_69 a x s2) (fun r s2 => ofr PQ FS s s2 ∧ ((r = 1 ∧ mayP v lim sg N f) ∨ (r = 0 ∧ ¬ mayP v lim sg N f))) := by
    intro x nm x0
    unfold k_X12_mayBe_69
    exact Rt_pos x0 (Rt_some ⟨oq, Or.inr ⟨rfl, nm⟩⟩)
  rcases ho with ⟨r1, p, hp⟩ | ⟨r0, hn⟩
  · have hR : hasR (wrt v f) := ⟨hp.1, p, hp.2.1, hp.2.2.1⟩
    have ep := thP_eq hf hp.2.1 hp.2.2.1
    have hm2 : veq (wrt v f) (mV 72 73 s2) := by rw [mV_keep o (fun k _ _ => by unfold PS; omega) (fun j _ _ => by unfold FS; omega) (by unfold PS; omega) (by unfold PS; omega)]; exact hm
    subst r1
    refine Rt_loop (σ := Int × GM) (fun f z s => k_X12_mayBe_7 f a s.1 z s.2) _ (nn v 0) (fun z t => t.2 = s2 ∧ ((t.1 = 1 ∧ ∀ c : Nat, c < z → dryv (wrt v f) (thP (wrt v f)) c = 0 ∧ (lim c = -10000009 ∨ lim c ≤ wM (wrt v f) c)) ∨ (t.1 = 0 ∧ ¬ mayP v lim sg N f))) ?_ ?_ FU 0 (1, s2) (by omega) (FU_gt (by omega)) ⟨rfl, Or.inl ⟨rfl, fun c hc => by omega⟩⟩
    · intro fu z ⟨x, t⟩ hz ⟨et, ok⟩ hnext
      have et : t = s2 := et
      subst et
      show Rt (k_X12_mayBe_7 (fu + 1) a x (z : Int) t) _
      rw [k_X12_mayBe_7, e1]
      refine Rt_pos (by omega) ?_
      rcases ok with ⟨ex, ok⟩ | ⟨ex, nm⟩
      · have ex : x = 1 := ex
        have ed := mdry_eq (p := p) hf hx hm2 hp (c := z) hz
        have eh := wM_m hf hp (c := z) hz
        rw [ep] at ed
        have nx : dryv (wrt v f) (thP (wrt v f)) z = 0 → (lim z = -10000009 ∨ lim z ≤ wM (wrt v f) z) → Rt (k_X12_mayBe_7 fu a 1 ((z + 1 : Nat) : Int) t) (fun r s2 => ofr PQ FS s s2 ∧ ((r = 1 ∧ mayP v lim sg N f) ∨ (r = 0 ∧ ¬ mayP v lim sg N f))) := fun x1 x2 => hnext (1, t) ⟨rfl, Or.inl ⟨rfl, fun c hc => by
            by_cases qc : c = z
            · subst qc; exact ⟨x1, x2⟩
            · exact ok c (by omega)⟩⟩
        have n2 : ¬ mayP v lim sg N f → Rt (k_X12_mayBe_7 fu a 0 ((z + 1 : Nat) : Int) t) (fun r s2 => ofr PQ FS s s2 ∧ ((r = 1 ∧ mayP v lim sg N f) ∨ (r = 0 ∧ ¬ mayP v lim sg N f))) := fun nm => hnext (0, t) ⟨rfl, Or.inr ⟨rfl, nm⟩⟩
        refine Rt_neg (by omega) (Rt_bde ed (Rt_if (fun q => Rt_ck (by omega) ?_) (fun q => Rt_lt ?_)))
        · rw [f92]
          refine Rt_if (fun g => Rt_lt ?_) (fun g => Rt_ck (by omega) (Rt_bde eh (Rt_ck (by omega) ?_)))
          · rw [w32s (by omega)]; exact nx q (Or.inl g)
          · rw [f92]
            refine Rt_if (fun g2 => Rt_lt ?_) (fun g2 => Rt_lt ?_)
            · rw [w32s (by omega)]
              refine n2 (fun m => ?_)
              rcases (m.2.1 z hz).2 with x | x
              · exact g x
              · omega
            · rw [w32s (by omega)]; exact nx q (Or.inr (by omega))
        · rw [w32s (by omega)]; exact n2 (fun m => q (m.2.1 z hz).1)
      · exact Rt_pos ex (no _ nm ex)
    · intro fu ⟨x, t⟩ ⟨et, ok⟩
      have et : t = s2 := et
      subst et
      show Rt (k_X12_mayBe_7 (fu + 1) a x ((nn v 0 : Nat) : Int) t) _
      rw [k_X12_mayBe_7, e1]
      refine Rt_neg (by omega) ?_
      rcases ok with ⟨ex, ok⟩ | ⟨ex, nm⟩
      · have ex : x = 1 := ex
        unfold k_X12_mayBe_69
        refine Rt_neg (by omega) ?_
        by_cases q : 0 < N ∧ FV v sg N = -10000009
        · rw [if_pos q] at ha
          refine Rt_neg (by omega) (Rt_bd (mheldW hf hm2 hp f44 f88 hN (FV_gst hN.1 (FV_wrt.trans q.2))) (fun r3 s3 ⟨e3, o3⟩ => ?_))
          have o4 : ofr PQ FS s s3 := oq.trans (o3.mono (fun k hk => Or.inr hk) (fun k j hk => hk.elim))
          rw [ep] at e3
          rw [e3]
          exact Rt_if (fun c => Rt_some ⟨o4, Or.inr ⟨rfl, fun m => m.2.2 q c⟩⟩) (fun c => Rt_some ⟨o4, Or.inl ⟨rfl, hR, ok, fun _ => c⟩⟩)
        · rw [if_neg q] at ha
          exact Rt_pos ha (Rt_some ⟨oq, Or.inl ⟨rfl, hR, ok, fun z => absurd z q⟩⟩)
      · exact no _ nm ex
  · subst r0
    rw [show FU = 4999 + 1 from rfl, k_X12_mayBe_7]
    exact Rt_if (fun _ => Rt_pos rfl (no 0 (fun m => hn m.1) rfl)) (fun _ => no 0 (fun m => hn m.1) rfl)
