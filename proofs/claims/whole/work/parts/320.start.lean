theorem gKn {args : Array Value} {s : State} (hts : ∀ w ∈ gT, w.before args s = true) : ∃ (dC : Nat → ClassId) (dI : Nat → Nat → Nat), ∀ (k : Nat) (q : vw_C), vwCl[k]? = some q → u_Kn s q.1 q.2.1 q.2.2 (dC k) (dI k) := by
  have h : ∀ k : Nat, ∃ z : ClassId × (Nat → Nat), ∀ q : vw_C, vwCl[k]? = some q → u_Kn s q.1 q.2.1 q.2.2 z.1 z.2 := by
    intro k
    cases hk : vwCl[k]? with
    | none => exact ⟨(0, fun _ => 0), fun q hq => by cases hq⟩
    | some q =>
      have h2 : ∃ (cC : ClassId) (iS : Nat → Nat), u_Kn s q.1 q.2.1 q.2.2 cC iS := by
        match k, hk with
        | 0, hq => cases hq; exact u_known hts (gIn 0 _ rfl) (hts _ ins_RX0)
        | 1, hq => cases hq; exact u_known hts (gIn 1 _ rfl) (hts _ ins_RX1)
        | 2, hq => cases hq; exact u_known hts (gIn 2 _ rfl) (hts _ ins_RX2)
        | 3, hq => cases hq; exact u_known hts (gIn 3 _ rfl) (hts _ ins_RX3)
        | 4, hq => cases hq; exact u_known hts (gIn 4 _ rfl) (hts _ ins_RX4)
        | 5, hq => cases hq; exact u_known hts (gIn 5 _ rfl) (hts _ ins_RX5)
        | 6, hq => cases hq; exact u_known hts (gIn 6 _ rfl) (hts _ ins_RX6)
        | 7, hq => cases hq; exact u_known hts (gIn 7 _ rfl) (hts _ ins_RX7)
        | 8, hq => cases hq; exact u_known hts (gIn 8 _ rfl) (hts _ ins_RX8)
        | 9, hq => cases hq; exact u_known hts (gIn 9 _ rfl) (hts _ ins_RX9)
        | 10, hq => cases hq; exact u_known hts (gIn 10 _ rfl) (hts _ ins_RX10)
        | 11, hq => cases hq; exact u_known hts (gIn 11 _ rfl) (hts _ ins_RX11)
        | 12, hq => cases hq; exact u_known hts (gIn 12 _ rfl) (hts _ ins_RX12)
        | k + 13, hq => simp [vwCl] at hq
      obtain ⟨cC, iS, h3⟩ := h2
      exact ⟨(cC, iS), fun q2 hq2 => by cases hq2; exact h3⟩
  exact ⟨fun k => (Classical.choose (h k)).1, fun k => (Classical.choose (h k)).2, fun k q hq => Classical.choose_spec (h k) q hq⟩
theorem gCls {args : Array Value} {s : State} {t : FieldType} (h : (Cond.arrayClass t).before args s = true) (ho : ∀ C, t ≠ .object C) : ∃ c : ClassId, ArrOfT s c t ∧ va_RA s c t := by
  obtain ⟨c, k, comp, h1, h2, h3⟩ := Cond.arrayClass_spec h
  refine ⟨c, fun N z => ⟨(fun q hq => by cases hq), k, h2, comp, h3⟩, ?_⟩
  cases t <;> first | exact h1 | exact absurd rfl (ho _)
theorem gCls2 {args : Array Value} {s : State} {t : FieldType} (h : (Cond.arrayOver (.array t)).before args s = true) : ∃ c : ClassId, ArrOfT s c (.array t) ∧ va_RA s c (.array t) := by
  obtain ⟨comp, c, k, h1, h2, h3, h4, h5⟩ := g_aoa_spec h
  exact ⟨c, fun N z => ⟨(fun q hq => by cases hq), k, h3, comp, h4⟩, h5⟩
theorem gRg0 : gRg gMem0 := by
  refine ⟨fun k i => gRA.of32 _ ?_, fun k j => gRF.of32 _ _ ?_⟩
  · show r32 (if _ then _ else if _ then _ else _)
    split
    · exact ⟨by decide, by decide⟩
    · split
      · exact ⟨by decide, by decide⟩
      · exact ⟨by decide, by decide⟩
  · show r32 (if _ then _ else if _ then _ else if _ then _ else _)
    split
    · exact ⟨by decide, by decide⟩
    · split
      · exact ⟨by decide, by decide⟩
      · split
        · exact ⟨by decide, by decide⟩
        · exact ⟨by decide, by decide⟩
theorem gWl_at (R : List Nat) (ad : Nat → Nat) (cT : Nat → ClassId) (μ : GM) (i : Nat) : (gWl R ad cT μ)[i]? = (R[i]?).map (fun k => (ad k, gCell ad cT μ k (gE k))) := by
  unfold gWl
  rw [List.getElem?_map]
theorem g_all : ∀ k ∈ List.range 139, k ∈ reg_X11_init ++ reg_X12_init := by decide +kernel
theorem g_reg1 : ∀ k ∈ reg_X11_init, ¬ (53 ≤ k ∧ k < 94) ∧ k < 139 := by decide +kernel
theorem g_reg2 : ∀ k ∈ reg_X12_init, (53 ≤ k ∧ k < 94) := by decide +kernel
set_option maxHeartbeats 4000000 in
/-- the law from its entry, over what its pure function answers -/
theorem whole_start_open (hpure : ∀ (L : Nat) (xs : Nat → Int), L ≤ 2560 → (∀ j, r32 (xs j)) → ∃ μ2, f_law L xs gMem0 = some (1, μ2)) {p : Program} {e : Env} {s : State} {m : MethodId} {below : List Frame} {meth : Method} {c : Code} (l : Launch) {b L : Nat} {xs : Nat → Int32} (hL : L ≤ 2560) (C0 : lw_At p s m meth c b L xs) : W p l e room_1 s m #[Value.ref b] below meth c s.heap [] 0 0 (lw_Z below #[Value.ref b] s) (entryFrame m ([Value.ref b] : List Value).toArray 4) := by
  obtain ⟨hx, hb, hr, hml, hown, hts0, hX, hbl, hlocks, hgv⟩ := C0
  have hts : ∀ w ∈ gT, w.before #[Value.ref b] s = true := fun w hw => hts0 w (List.mem_filter.mp hw).1
  obtain ⟨dC, dI, hKc⟩ := gKn hts
  obtain ⟨cI, hI⟩ := gCls (hts _ ac_int) (fun C h => by cases h)
  obtain ⟨cZ, hZ⟩ := gCls (hts _ ac_boolean) (fun C h => by cases h)
  obtain ⟨cJ, hJ⟩ := gCls (hts _ ac_long) (fun C h => by cases h)
  have hoI : (Cond.arrayOver (.array .int)).before #[Value.ref b] s = true := hts0 _ (tb_2 (List.mem_of_getElem? (i := 99) rfl))
  have hoJ : (Cond.arrayOver (.array .long)).before #[Value.ref b] s = true := hts0 _ (tb_2 (List.mem_of_getElem? (i := 4) rfl))
  obtain ⟨cI2, hI2⟩ := gCls2 hoI
  obtain ⟨cJ2, hJ2⟩ := gCls2 hoJ
  obtain ⟨cT, h0, h1, h2, h3, h4⟩ : ∃ cT : Nat → ClassId, cT 0 = cI ∧ cT 1 = cZ ∧ cT 2 = cJ ∧ cT 3 = cI2 ∧ cT 4 = cJ2 := ⟨fun k => match k with
    | 0 => cI
    | 1 => cZ
    | 2 => cJ
    | 3 => cI2
    | _ => cJ2, rfl, rfl, rfl, rfl, rfl⟩
  have hK : va_K (dC, dI) vwCl (gTy cT) s := ⟨hKc, fun k q hq => by
    match k, hq with
    | 0, hq => cases hq; rw [h0]; exact hI
    | 1, hq => cases hq; rw [h1]; exact hZ
    | 2, hq => cases hq; rw [h2]; exact hJ
    | 3, hq => cases hq; rw [h3]; exact hI2
    | 4, hq => cases hq; rw [h4]; exact hJ2
    | k + 5, hq => simp [gTy] at hq⟩
  have hflat := flat_of_before _ hgv
  have hnA : ∀ a : Nat, a < s.heap.size → ¬ (fun q : Nat => s.heap.size ≤ q) a := fun a h => Nat.not_le.mpr h
  have fa : (Cond.arrayOf (Term.static "GroundWaters" "FACTORIAL" "[I") .int).before #[Value.ref b] s = true := hflat _ (by decide +kernel)
  have fl : (Cond.eq (.length (Term.static "GroundWaters" "FACTORIAL" "[I")) (.int 4)).before #[Value.ref b] s = true := hflat _ (by decide +kernel)
  have f0 : (Cond.eq (.elem (Term.static "GroundWaters" "FACTORIAL" "[I") (.int 0)) (.int 1)).before #[Value.ref b] s = true := hflat _ (by decide +kernel)
  have f1 : (Cond.eq (.elem (Term.static "GroundWaters" "FACTORIAL" "[I") (.int 1)) (.int 1)).before #[Value.ref b] s = true := hflat _ (by decide +kernel)
  have f2 : (Cond.eq (.elem (Term.static "GroundWaters" "FACTORIAL" "[I") (.int 2)) (.int 2)).before #[Value.ref b] s = true := hflat _ (by decide +kernel)
  have f3 : (Cond.eq (.elem (Term.static "GroundWaters" "FACTORIAL" "[I") (.int 3)) (.int 6)).before #[Value.ref b] s = true := hflat _ (by decide +kernel)
  obtain ⟨tF, htF, hTF⟩ := va_Tof (f := fun j => .int (Int32.ofInt (gfac j))) (N := 4) (A := fun q : Nat => s.heap.size ≤ q) (by decide) fa (va_eqt fl) (fun j hj => match j, hj with
    | 0, _ => va_eqt f0
    | 1, _ => va_eqt f1
    | 2, _ => va_eqt f2
    | 3, _ => va_eqt f3
    | j + 4, hj => absurd hj (by omega)) hnA
  have hZF := va_Zref (A := fun q : Nat => s.heap.size ≤ q) (hts0 _ (tb_5 (List.mem_of_getElem? (i := 146) rfl))) (hts _ ini_RX11) htF hnA
  have CKL : CK (p, l, e, room_1, s, m, #[Value.ref b], below, meth, c, lw_Z below #[Value.ref b] s, (dC, dI), (fun _ => 0), cT, (fun q : Nat => s.heap.size ≤ q), 0, 0) 10 code 4 RL 600000 7302250 := ⟨hx, hb, hml, hown, hts, hlocks, hK, fun q h => h, va_AOA.of hoI, va_AOA.of hoJ, Nat.le_refl _, Nat.le_refl _, Nat.le_refl _, Nat.le_refl _⟩
  have main : WK (p, l, e, room_1, s, m, #[Value.ref b], below, meth, c, lw_Z below #[Value.ref b] s, (dC, dI), (fun _ => 0), cT, (fun q : Nat => s.heap.size ≤ q), 0, 0) 4 [] 0 0 0 [(0, Value.ref b)] [] := by
    refine n_new (ci := 11) (fs := [.null, .null, .null, .null, .null, .null, .null]) (ws2 := fun q => [(q, .inr (11, [.null, .null, .null, .null, .null, .null, .null]))]) CKL rfl tyX11_ok nf_11 lkk_RL_7 ins_RX11 ini_RX11 (by decide) (by decide) dL_law_0 (fun q => rfl) (fun q1 => ?_)
    refine n_dup CKL dL_law_3 ?_
    refine n_cI (w0 := []) (ws2 := fun ad1 => gWl reg_X11_init ad1 cT gMem0) CKL [] mb_X11_init rfl mii_X11_init lkm_RL_9 (by decide) (ci_X11_init q1) rfl (Nat.le_of_ble_eq_true rfl) rfl rfl (by decide) (by decide) dL_law_4 (fun ad1 => rfl) (fun ad1 he1 => ?_)
    subst he1
    refine n_astore_n (lv2 := [(1, Value.ref (ad1 0)), (0, Value.ref b)]) CKL dL_law_7 rfl (by decide) rfl ?_
    refine n_new (ci := 12) (fs := [.int 0, .int 0, .null, .null, .null, .int 0, .null, .null, .null, .int 0, .null, .null, .null, .null, .int 0, .null, .null, .null, .int 0, .null, .null, .null, .null, .null, .long 0, .int 0, .null, .null, .null, .null, .null, .int 0, .null, .null, .null, .null, .null, .int 0, .null, .null, .null, .null, .null, .null, .int 0, .null, .null, .null, .null, .null, .int 0, .int 0, .int 0, .null]) (ws2 := fun q => gWl reg_X11_init ad1 cT gMem0 ++ [(q, .inr (12, [.int 0, .int 0, .null, .null, .null, .int 0, .null, .null, .null, .int 0, .null, .null, .null, .null, .int 0, .null, .null, .null, .int 0, .null, .null, .null, .null, .null, .long 0, .int 0, .null, .null, .null, .null, .null, .int 0, .null, .null, .null, .null, .null, .int 0, .null, .null, .null, .null, .null, .null, .int 0, .null, .null, .null, .null, .null, .int 0, .int 0, .int 0, .null]))]) CKL rfl tyX12_ok nf_12 lkk_RL_10 ins_RX12 ini_RX12 (by decide) (by decide) dL_law_8 (fun q => rfl) (fun q2 => ?_)
    refine n_dup CKL dL_law_11 ?_
    refine n_cI (w0 := gWl reg_X11_init ad1 cT gMem0) (ws2 := fun ad2 => gWl reg_X11_init ad1 cT gMem0 ++ gWl reg_X12_init ad2 cT gMem0) CKL [] mb_X12_init rfl mii_X12_init lkm_RL_12 (by decide) (ci_X12_init q2) rfl (Nat.le_of_ble_eq_true rfl) rfl rfl (by decide) (by decide) dL_law_12 (fun ad2 => rfl) (fun ad2 he2 => ?_)
    subst he2
    refine n_astore_n (lv2 := [(2, Value.ref (ad2 53)), (1, Value.ref (ad1 0)), (0, Value.ref b)]) CKL dL_law_15 rfl (by decide) rfl ?_
    intro H locs ls hP hD hS hl
    refine W.widen (k := 600000) (n := 7302250) (by decide) (by decide) ?_
    obtain ⟨ad, hadf⟩ : ∃ ad : Nat → Nat, ad = fun k => if k = 998 then tF else if k = 999 then b else if 53 ≤ k ∧ k < 94 then ad2 k else ad1 k := ⟨_, rfl⟩
    have a998 : ad 998 = tF := by rw [hadf]; rfl
    have a999 : ad 999 = b := by rw [hadf]; rfl
    have a1 : ∀ k ∈ reg_X11_init, ad1 k = ad k := fun k hk => by
      obtain ⟨g1, g2⟩ := g_reg1 k hk
      rw [hadf]
      dsimp only
      rw [if_neg (by omega), if_neg (by omega), if_neg g1]
    have a2 : ∀ k ∈ reg_X12_init, ad2 k = ad k := fun k hk => by
      have g1 := g_reg2 k hk
      rw [hadf]
      dsimp only
      rw [if_neg (by omega), if_neg (by omega), if_pos g1]
    have e1 : gWl reg_X11_init ad1 cT gMem0 = gWl reg_X11_init ad cT gMem0 := gWl_congr (S := reg_X11_init) a1 (by decide +kernel)
    have e2 : gWl reg_X12_init ad2 cT gMem0 = gWl reg_X12_init ad cT gMem0 := gWl_congr (S := reg_X12_init) a2 (by decide +kernel)
    rw [e1, e2, ← gWl_app] at hP hD
    have b53 : ad2 53 = ad 53 := a2 53 (by decide +kernel)
    have b0 : ad1 0 = ad 0 := a1 0 (by decide +kernel)
    rw [b53, b0, ← a999] at hl
    clear hadf e1 e2 a1 a2
    have hpl : ∀ k : Nat, k < gKT.length → ∃ i : Nat, (gWl (reg_X11_init ++ reg_X12_init) ad cT gMem0)[i]? = some (ad k, gCell ad cT gMem0 k (gE k)) ∧ (reg_X11_init ++ reg_X12_init)[i]? = some k := fun k hk => by
      rw [gKT_len] at hk
      obtain ⟨i, hi⟩ := List.getElem?_of_mem (g_all k (List.mem_range.mpr hk))
      exact ⟨i, by rw [gWl_at, hi]; rfl, hi⟩
    have hPw : va_P (dC, dI) vwCl (gWs ad cT gMem0) H := fun k q hq => by
      have hk := (List.getElem?_eq_some_iff.mp hq).1
      rw [gWs_len] at hk
      obtain ⟨i, hi, -⟩ := hpl k hk
      have hg := gWs_at ad cT gMem0 (List.getElem?_eq_getElem hk)
      rw [hg] at hq
      have hge : gE k = gKT[k] := by unfold gE; rw [List.getD_eq_getElem?_getD, List.getElem?_eq_getElem hk]; rfl
      rw [hge] at hi
      cases hq
      exact hP i _ hi
    have hinj : gInj ad := fun i j hi hj hij => by
      obtain ⟨x, hx1, hx2⟩ := hpl i hi
      obtain ⟨y, hy1, hy2⟩ := hpl j hj
      have hxy := hD.1 x y _ _ hx1 hy1 hij
      subst hxy
      exact Option.some.inj (hx2.symm.trans hy2)
    have hAd : ∀ k, k < gKT.length → s.heap.size ≤ ad k := fun k hk => by
      obtain ⟨x, hx1, hx2⟩ := hpl k hk
      exact hD.2 x _ hx1
    obtain ⟨μ2, hμ2⟩ := hpure L (fun j => (xs j).toInt) hL (fun j => r32_toInt _)
    have hxe : (fun j => Int32.ofInt ((xs j).toInt)) = xs := funext fun j => Int32.ofInt_toInt _
    exact w_L_law_16 (G := (p, l, e, room_1, s, m, #[Value.ref b], below, meth, c, lw_Z below #[Value.ref b] s, (dC, dI), ad, cT, (fun q : Nat => s.heap.size ≤ q), 600000, 7302250)) (u := (1, μ2))
      ⟨hx, hb, hml, hown, hts, hlocks, hK, hinj, hAd, fun q h => h, ⟨by rw [a998]; exact hZF, by rw [a998]; exact hTF⟩, by decide, by decide, Nat.le_refl _, Nat.le_refl _⟩
      ⟨hr, rfl, by rw [a999], rfl, rfl, rfl, rfl, rfl⟩
      ⟨by rw [a999, hxe]; exact hX, by rw [a999]; exact hbl, by rw [a999]; exact Nat.not_le.mpr hbl⟩ (fun j => r32_toInt _) ⟨by omega, by omega⟩ gRg0 hμ2 H locs ls hPw hS hl
  rw [lg_entry_eq]
  exact main s.heap [] _ (fun k q h => by simp at h) ⟨fun i j x y h => by simp at h, fun k q h => by simp at h⟩ va_S.rf (lv_entry ([.ref b]) (n := 4) (Nat.le_of_ble_eq_true rfl))
