/-! the memory of new objects; worlds of some places; the walk of constructors -/
def gMem0 : GM := (fun k _ => if k = 48 ∨ k = 92 ∨ k = 95 ∨ k = 133 then -10000009 else if k = 35 then -1 else 0, fun k j => if (k = 94 ∨ k = 132) ∧ j = 7 then 1 else if k = 94 ∧ j = 1 then 32 else if k = 132 ∧ j = 1 then 1 else 0)
def gE (k : Nat) : Nat × Nat × Nat × List (Nat × Nat) := gKT.getD k (9, 0, 0, [])
def gWl (R : List Nat) (ad : Nat → Nat) (cT : Nat → ClassId) (μ : GM) : va_W := R.map (fun k => (ad k, gCell ad cT μ k (gE k)))
abbrev gcT (G : GX) : Nat → ClassId := G.2.2.2.2.2.2.2.2.2.2.2.2.2.1
def WK (G : GX) (nL : Nat) (ws : va_W) (c1 s1 : Nat) (pc : Nat) (lv : List (Nat × Value)) (st : List Value) : Prop := match G with
  | (p, l, e, R, s, m, args, below, meth, c, Q, D, ad, cT, A, cl, sl) => ∀ (H : Heap) (locs : List Loc) (ls : Array Slot), va_P D vwCl ws H → va_D A ws → va_S A s.heap H locs → lv_has ls nL lv → W p l e R s m args below meth c H locs c1 s1 Q (F0 m pc ls st)
def CK (G : GX) (dd : Nat) (cc : ByteArray) (nL : Nat) (own : String) (mc ms : Nat) : Prop := match G with
  | (p, l, e, R, s, m, args, below, meth, c, Q, D, ad, cT, A, cl, sl) => p.tables.exec = Jvm.exec ∧ c.code = cc ∧ c.maxLocals = nL ∧ s.vm.findClass own = some m.cls ∧ (∀ w ∈ gT, w.before args s = true) ∧ meth.locks = false ∧ va_K D vwCl (gTy cT) s ∧ (∀ q, s.heap.size ≤ q → A q) ∧ va_AOA .int s ∧ va_AOA .long s ∧ dd ≤ R.frames ∧ 39 * dd ≤ R.locals ∧ mc ≤ R.cells ∧ ms ≤ R.slots
def gIni (G : GX) : Prop := match G with
  | (p, l, e, R, s, m, args, below, meth, c, Q, D, ad, cT, A, cl, sl) => meth.name = "<init>"
section GK
variable {G : GX} {dd : Nat} {cc : ByteArray} {nL : Nat} {own : String} {mc ms c1 s1 : Nat} {ws : va_W} {pc : Nat} {lv : List (Nat × Value)} {st : List Value}
theorem g_innerI (c : ClassId) (M : Nat) : Jvm.Free.Multi.innerC c M (defaultValue .int) = vp_cell c (M, .inl fun _ => 0) := by
  rw [vp_cell_i]
  exact arrV_new c M (.int 0)
theorem g_innerJ (c : ClassId) (M : Nat) : Jvm.Free.Multi.innerC c M (defaultValue .long) = vp_cell c (M, .inr (.inl fun _ => 0)) := by
  rw [vp_cell_l]
  exact arrV_new c M (.long 0)
theorem va_P_mem {D : va_G} {cl : List vw_C} {w1 w2 : va_W} {H : Heap} (h : va_P D cl w1 H) (hs : ∀ x ∈ w2, x ∈ w1) : va_P D cl w2 H := by
  intro k q hq
  obtain ⟨i, hi⟩ := List.getElem?_of_mem (hs q (List.mem_of_getElem? hq))
  exact h i q hi
theorem n_iconst (C : CK G dd cc nL own mc ms) {n : Int} (hd : decode cc pc = .ok (.iconst n, 1)) (k : WK G nL ws c1 s1 (pc + 1) lv (vI n :: st)) : WK G nL ws c1 s1 pc lv st := by
  obtain ⟨p, l, e, R, s, m, args, below, meth, c, Q, D, ad, cT, A, cl, sl⟩ := G
  obtain ⟨hx, hb, hml, hown, hts, hlk, hK, hA, hO1, hO2, hfr, hlo, hcl, hsl⟩ := C
  intro H locs ls hP hD hS hl
  exact lv_iconst hx hb hd rfl (k H locs ls hP hD hS hl)
theorem n_bipush (C : CK G dd cc nL own mc ms) {n v : Int} (hd : decode cc pc = .ok (.bipush n, 2)) (hv : (Int8.ofInt n).toInt32 = Int32.ofInt v) (k : WK G nL ws c1 s1 (pc + 2) lv (vI v :: st)) : WK G nL ws c1 s1 pc lv st := by
  obtain ⟨p, l, e, R, s, m, args, below, meth, c, Q, D, ad, cT, A, cl, sl⟩ := G
  obtain ⟨hx, hb, hml, hown, hts, hlk, hK, hA, hO1, hO2, hfr, hlo, hcl, hsl⟩ := C
  intro H locs ls hP hD hS hl
  exact lv_bipush hx hb hd hv (k H locs ls hP hD hS hl)
theorem n_sipush (C : CK G dd cc nL own mc ms) {n v : Int} (hd : decode cc pc = .ok (.sipush n, 3)) (hv : (Int16.ofInt n).toInt32 = Int32.ofInt v) (k : WK G nL ws c1 s1 (pc + 3) lv (vI v :: st)) : WK G nL ws c1 s1 pc lv st := by
  obtain ⟨p, l, e, R, s, m, args, below, meth, c, Q, D, ad, cT, A, cl, sl⟩ := G
  obtain ⟨hx, hb, hml, hown, hts, hlk, hK, hA, hO1, hO2, hfr, hlo, hcl, hsl⟩ := C
  intro H locs ls hP hD hS hl
  exact lv_sipush hx hb hd hv (k H locs ls hP hD hS hl)
theorem n_lconst (C : CK G dd cc nL own mc ms) {n : Fin 2} {v : Int} (hd : decode cc pc = .ok (.lconst n, 1)) (hv : Int64.ofNat (n : Nat) = Int64.ofInt v) (k : WK G nL ws c1 s1 (pc + 1) lv (vJ v :: st)) : WK G nL ws c1 s1 pc lv st := by
  obtain ⟨p, l, e, R, s, m, args, below, meth, c, Q, D, ad, cT, A, cl, sl⟩ := G
  obtain ⟨hx, hb, hml, hown, hts, hlk, hK, hA, hO1, hO2, hfr, hlo, hcl, hsl⟩ := C
  intro H locs ls hP hD hS hl
  exact lv_lconst hx hb hd hv (k H locs ls hP hD hS hl)
theorem n_ldc (C : CK G dd cc nL own mc ms) {idx : Nat} {v : Int} {v2 : Int32} (hc : Cond.constant own idx v2 ∈ gT) (hv : v2 = Int32.ofInt v) (hd : decode cc pc = .ok (.ldc idx, 2)) (k : WK G nL ws c1 s1 (pc + 2) lv (vI v :: st)) : WK G nL ws c1 s1 pc lv st := by
  obtain ⟨p, l, e, R, s, m, args, below, meth, c, Q, D, ad, cT, A, cl, sl⟩ := G
  obtain ⟨hx, hb, hml, hown, hts, hlk, hK, hA, hO1, hO2, hfr, hlo, hcl, hsl⟩ := C
  intro H locs ls hP hD hS hl
  subst hv
  exact lv_ldc hx hb hown (hts _ hc) hd (k H locs ls hP hD hS hl)
theorem n_iload_n (C : CK G dd cc nL own mc ms) {kf : Fin 4} {i : Nat} {x : Int} (pl : Nat) (hd : decode cc pc = .ok (.iload_n kf, 1)) (hi : (kf : Nat) = i) (hpl : lv[pl]? = some (i, vI x)) (k : WK G nL ws c1 s1 (pc + 1) lv (vI x :: st)) : WK G nL ws c1 s1 pc lv st := by
  obtain ⟨p, l, e, R, s, m, args, below, meth, c, Q, D, ad, cT, A, cl, sl⟩ := G
  obtain ⟨hx, hb, hml, hown, hts, hlk, hK, hA, hO1, hO2, hfr, hlo, hcl, hsl⟩ := C
  intro H locs ls hP hD hS hl
  exact lv_iload_n hx hb hd hi (lv_at hl pl hpl) (k H locs ls hP hD hS hl)
theorem n_aload_n (C : CK G dd cc nL own mc ms) {kf : Fin 4} {i : Nat} {x : Nat} (pl : Nat) (hd : decode cc pc = .ok (.aload_n kf, 1)) (hi : (kf : Nat) = i) (hpl : lv[pl]? = some (i, Value.ref x)) (k : WK G nL ws c1 s1 (pc + 1) lv (Value.ref x :: st)) : WK G nL ws c1 s1 pc lv st := by
  obtain ⟨p, l, e, R, s, m, args, below, meth, c, Q, D, ad, cT, A, cl, sl⟩ := G
  obtain ⟨hx, hb, hml, hown, hts, hlk, hK, hA, hO1, hO2, hfr, hlo, hcl, hsl⟩ := C
  intro H locs ls hP hD hS hl
  exact lv_aload_n hx hb hd hi (lv_at hl pl hpl) (k H locs ls hP hD hS hl)
theorem n_dup (C : CK G dd cc nL own mc ms) {x : Nat} (hd : decode cc pc = .ok (.dup, 1)) (k : WK G nL ws c1 s1 (pc + 1) lv (Value.ref x :: Value.ref x :: st)) : WK G nL ws c1 s1 pc lv (Value.ref x :: st) := by
  obtain ⟨p, l, e, R, s, m, args, below, meth, c, Q, D, ad, cT, A, cl, sl⟩ := G
  obtain ⟨hx, hb, hml, hown, hts, hlk, hK, hA, hO1, hO2, hfr, hlo, hcl, hsl⟩ := C
  intro H locs ls hP hD hS hl
  exact lv_dup hx hb hd rfl (k H locs ls hP hD hS hl)
theorem n_istore_n (C : CK G dd cc nL own mc ms) {kf : Fin 4} {i : Nat} {x : Int} {lv2 : List (Nat × Value)} (hd : decode cc pc = .ok (.istore_n kf, 1)) (hi : (kf : Nat) = i) (hn : i < nL) (hl2 : (i, vI x) :: lv.filter (fun q => !(q.1 == i) && !(q.1 + 1 == i && q.2.category == 2)) = lv2) (k : WK G nL ws c1 s1 (pc + 1) lv2 (st)) : WK G nL ws c1 s1 pc lv (vI x :: st) := by
  obtain ⟨p, l, e, R, s, m, args, below, meth, c, Q, D, ad, cT, A, cl, sl⟩ := G
  obtain ⟨hx, hb, hml, hown, hts, hlk, hK, hA, hO1, hO2, hfr, hlo, hcl, hsl⟩ := C
  intro H locs ls hP hD hS hl
  exact lv_istore_n hx hb hd hi hl hn hl2 (fun ls hl => k H locs ls hP hD hS hl)
theorem n_astore_n (C : CK G dd cc nL own mc ms) {kf : Fin 4} {i : Nat} {x : Nat} {lv2 : List (Nat × Value)} (hd : decode cc pc = .ok (.astore_n kf, 1)) (hi : (kf : Nat) = i) (hn : i < nL) (hl2 : (i, Value.ref x) :: lv.filter (fun q => !(q.1 == i) && !(q.1 + 1 == i && q.2.category == 2)) = lv2) (k : WK G nL ws c1 s1 (pc + 1) lv2 (st)) : WK G nL ws c1 s1 pc lv (Value.ref x :: st) := by
  obtain ⟨p, l, e, R, s, m, args, below, meth, c, Q, D, ad, cT, A, cl, sl⟩ := G
  obtain ⟨hx, hb, hml, hown, hts, hlk, hK, hA, hO1, hO2, hfr, hlo, hcl, hsl⟩ := C
  intro H locs ls hP hD hS hl
  exact lv_astore_n hx hb hd hi hl hn hl2 (fun ls hl => k H locs ls hP hD hS hl)
theorem n_iinc (C : CK G dd cc nL own mc ms) {i : Nat} {n x : Int} {lv2 : List (Nat × Value)} (pl : Nat) (hd : decode cc pc = .ok (.iinc i n, 3)) (hpl : lv[pl]? = some (i, vI x)) (hn : i < nL) (hl2 : (i, vI (w32 (x + n))) :: lv.filter (fun q => !(q.1 == i) && !(q.1 + 1 == i && q.2.category == 2)) = lv2) (k : WK G nL ws c1 s1 (pc + 3) lv2 (st)) : WK G nL ws c1 s1 pc lv st := by
  obtain ⟨p, l, e, R, s, m, args, below, meth, c, Q, D, ad, cT, A, cl, sl⟩ := G
  obtain ⟨hx, hb, hml, hown, hts, hlk, hK, hA, hO1, hO2, hfr, hlo, hcl, hsl⟩ := C
  intro H locs ls hP hD hS hl
  exact lv_iinc (v := Int32.ofInt (w32 (x + n))) hx hb hd hl hpl (by rw [of_w32, Int32.ofInt_add]) hn hl2 (fun ls hl => k H locs ls hP hD hS hl)
theorem n_icmp_ge (C : CK G dd cc nL own mc ms) {x y : Int} {off : Int} {tgt : Nat} (hx2 : r32 x) (hy2 : r32 y) (hd : decode cc pc = .ok (.if_icmp .ge off, 3)) (ht : (pc : Int) + off = (tgt : Int)) (kt : ¬ x < y → WK G nL ws c1 s1 tgt lv st) (kf : x < y → WK G nL ws c1 s1 (pc + 3) lv st) : WK G nL ws c1 s1 pc lv (vI y :: vI x :: st) := by
  obtain ⟨p, l, e, R, s, m, args, below, meth, c, Q, D, ad, cT, A, cl, sl⟩ := G
  obtain ⟨hx, hb, hml, hown, hts, hlk, hK, hA, hO1, hO2, hfr, hlo, hcl, hsl⟩ := C
  intro H locs ls hP hD hS hl
  refine lv_icmp_ge hx hb hd ht (fun q => ?_) (fun q => ?_)
  · exact kt (fun z => Int32.not_lt.mpr q ((lt32 hx2 hy2).mpr z)) H locs ls hP hD hS hl
  · exact kf ((lt32 hx2 hy2).mp (Int32.not_le.mp q)) H locs ls hP hD hS hl
theorem n_goto (C : CK G dd cc nL own mc ms) {off : Int} {tgt : Nat} (hd : decode cc pc = .ok (.goto off, 3)) (ht : (pc : Int) + off = (tgt : Int)) (k : WK G nL ws c1 s1 (tgt) lv (st)) : WK G nL ws c1 s1 pc lv st := by
  obtain ⟨p, l, e, R, s, m, args, below, meth, c, Q, D, ad, cT, A, cl, sl⟩ := G
  obtain ⟨hx, hb, hml, hown, hts, hlk, hK, hA, hO1, hO2, hfr, hlo, hcl, hsl⟩ := C
  intro H locs ls hP hD hS hl
  exact lv_goto hx hb hd ht (k H locs ls hP hD hS hl)
theorem n_obji (C : CK G dd cc nL own mc ms) {idx a : Nat} (h1 : Cond.methodLink own idx Lib.objectInit ∈ gT) (h2 : Cond.instanceMethod Lib.objectInit ∈ gT) (h3 : Cond.code Lib.objectInit ⟨#[0xb1]⟩ 1 none ∈ gT) (hdd : 1 ≤ dd) (hst : (st.map fun v => v.category).sum ≤ 8) (hd : decode cc pc = .ok (.invokespecial idx, 3)) (k : WK G nL ws c1 s1 (pc + 3) lv (st)) : WK G nL ws c1 s1 pc lv (Value.ref a :: st) := by
  obtain ⟨p, l, e, R, s, m, args, below, meth, c, Q, D, ad, cT, A, cl, sl⟩ := G
  obtain ⟨hx, hb, hml, hown, hts, hlk, hK, hA, hO1, hO2, hfr, hlo, hcl, hsl⟩ := C
  intro H locs ls hP hD hS hl
  refine W.objInit hx hb hown (hts _ h1) (hts _ h2) (hts _ h3) (g := F0 m pc ls (Value.ref a :: st)) rfl (by rw [hml]; exact hl.1) rfl hd (by omega) (by have := lv_room (m := m) (pc := pc) (ls := ls) (rest := Value.ref a :: st) hst; omega) ?_
  exact k H locs ls hP hD hS hl
theorem n_newI (C : CK G dd cc nL own mc ms) {n : Int} {N : Nat} {ws2 : Nat → va_W} (hN : n = (N : Int)) (hN2 : N ≤ 300) (ha : Cond.arrayClass .int ∈ gT) (h1 : c1 + 1 ≤ mc) (h2 : s1 + N ≤ ms) (hd : decode cc pc = .ok (.newarray .int, 2)) (hw : ∀ q, ws ++ [(q, .inl (gcT G 0, N, .inl fun _ => 0))] = ws2 q) (k : ∀ q, WK G nL (ws2 q) (c1 + 1) (s1 + N) (pc + 2) lv (Value.ref q :: st)) : WK G nL ws c1 s1 pc lv (vI n :: st) := by
  obtain ⟨p, l, e, R, s, m, args, below, meth, c, Q, D, ad, cT, A, cl, sl⟩ := G
  obtain ⟨hx, hb, hml, hown, hts, hlk, hK, hA, hO1, hO2, hfr, hlo, hcl, hsl⟩ := C
  intro H locs ls hP hD hS hl
  subst hN
  have hr : r32 (N : Int) := ⟨by omega, by omega⟩
  have hb8 : componentBytes .int ≤ 8 := by decide +kernel
  refine va_newa (atype := .int) (a0 := (N, .inl fun _ => 0)) hx hb (hts _ ha) (ty := .int) rfl hK hP hD hS hA (fun _ => rfl) (fun q => ?_) (by rw [g_clamp hr]; rfl) (Nat.le_trans (Nat.mul_le_mul hN2 hb8) (by decide)) (by omega) (by omega) hd (fun q cA H1 hK1 hP1 hD1 hS1 => ?_)
  · have := (lt32 hr r32_0).mp q
    omega
  · have e1 : va_RA s cA .int := (hK1.2 5 _ rfl).2
    have e2 : va_RA s (cT 0) .int := (hK.2 0 _ rfl).2
    have e3 : cA = cT 0 := Option.some.inj (e1.symm.trans e2)
    subst e3
    have hw2 := hw q
    exact k q H1 locs ls (by rw [← hw2]; exact hP1) (by rw [← hw2]; exact hD1) hS1 hl
theorem n_newZ (C : CK G dd cc nL own mc ms) {n : Int} {N : Nat} {ws2 : Nat → va_W} (hN : n = (N : Int)) (hN2 : N ≤ 300) (ha : Cond.arrayClass .boolean ∈ gT) (h1 : c1 + 1 ≤ mc) (h2 : s1 + N ≤ ms) (hd : decode cc pc = .ok (.newarray .boolean, 2)) (hw : ∀ q, ws ++ [(q, .inl (gcT G 1, N, .inl fun _ => 0))] = ws2 q) (k : ∀ q, WK G nL (ws2 q) (c1 + 1) (s1 + N) (pc + 2) lv (Value.ref q :: st)) : WK G nL ws c1 s1 pc lv (vI n :: st) := by
  obtain ⟨p, l, e, R, s, m, args, below, meth, c, Q, D, ad, cT, A, cl, sl⟩ := G
  obtain ⟨hx, hb, hml, hown, hts, hlk, hK, hA, hO1, hO2, hfr, hlo, hcl, hsl⟩ := C
  intro H locs ls hP hD hS hl
  subst hN
  have hr : r32 (N : Int) := ⟨by omega, by omega⟩
  have hb8 : componentBytes .boolean ≤ 8 := by decide +kernel
  refine va_newa (atype := .boolean) (a0 := (N, .inl fun _ => 0)) hx hb (hts _ ha) (ty := .boolean) rfl hK hP hD hS hA (fun _ => rfl) (fun q => ?_) (by rw [g_clamp hr]; rfl) (Nat.le_trans (Nat.mul_le_mul hN2 hb8) (by decide)) (by omega) (by omega) hd (fun q cA H1 hK1 hP1 hD1 hS1 => ?_)
  · have := (lt32 hr r32_0).mp q
    omega
  · have e1 : va_RA s cA .boolean := (hK1.2 5 _ rfl).2
    have e2 : va_RA s (cT 1) .boolean := (hK.2 1 _ rfl).2
    have e3 : cA = cT 1 := Option.some.inj (e1.symm.trans e2)
    subst e3
    have hw2 := hw q
    exact k q H1 locs ls (by rw [← hw2]; exact hP1) (by rw [← hw2]; exact hD1) hS1 hl
theorem n_newJ (C : CK G dd cc nL own mc ms) {n : Int} {N : Nat} {ws2 : Nat → va_W} (hN : n = (N : Int)) (hN2 : N ≤ 300) (ha : Cond.arrayClass .long ∈ gT) (h1 : c1 + 1 ≤ mc) (h2 : s1 + N ≤ ms) (hd : decode cc pc = .ok (.newarray .long, 2)) (hw : ∀ q, ws ++ [(q, .inl (gcT G 2, N, .inr (.inl fun _ => 0)))] = ws2 q) (k : ∀ q, WK G nL (ws2 q) (c1 + 1) (s1 + N) (pc + 2) lv (Value.ref q :: st)) : WK G nL ws c1 s1 pc lv (vI n :: st) := by
  obtain ⟨p, l, e, R, s, m, args, below, meth, c, Q, D, ad, cT, A, cl, sl⟩ := G
  obtain ⟨hx, hb, hml, hown, hts, hlk, hK, hA, hO1, hO2, hfr, hlo, hcl, hsl⟩ := C
  intro H locs ls hP hD hS hl
  subst hN
  have hr : r32 (N : Int) := ⟨by omega, by omega⟩
  have hb8 : componentBytes .long ≤ 8 := by decide +kernel
  refine va_newa (atype := .long) (a0 := (N, .inr (.inl fun _ => 0))) hx hb (hts _ ha) (ty := .long) rfl hK hP hD hS hA (fun _ => rfl) (fun q => ?_) (by rw [g_clamp hr]; rfl) (Nat.le_trans (Nat.mul_le_mul hN2 hb8) (by decide)) (by omega) (by omega) hd (fun q cA H1 hK1 hP1 hD1 hS1 => ?_)
  · have := (lt32 hr r32_0).mp q
    omega
  · have e1 : va_RA s cA .long := (hK1.2 5 _ rfl).2
    have e2 : va_RA s (cT 2) .long := (hK.2 2 _ rfl).2
    have e3 : cA = cT 2 := Option.some.inj (e1.symm.trans e2)
    subst e3
    have hw2 := hw q
    exact k q H1 locs ls (by rw [← hw2]; exact hP1) (by rw [← hw2]; exact hD1) hS1 hl
theorem n_mna3 (C : CK G dd cc nL own mc ms) {n m2 : Int} {N M idx : Nat} {ws2 : Nat → (Nat → Nat) → va_W} (hN : n = (N : Int)) (hM : m2 = (M : Int)) (hN2 : N ≤ 300) (hM2 : M ≤ 300) (hcl0 : Cond.classLink own idx ("[" ++ (FieldType.array .int).toString) ∈ gT) (ha : Cond.arrayClass .int ∈ gT) (h1 : c1 + (1 + N) ≤ mc) (h2 : s1 + (N + N * M) ≤ ms) (hd : decode cc pc = .ok (.multianewarray idx 2, 4)) (hw : ∀ q r, (ws ++ [(q, .inl (gcT G 3, N, .inr (.inr (.inr (.inr (fun i => if i < N then some (r i) else none))))))]) ++ (List.range N).map (fun i => (r i, .inl (gcT G 0, M, .inl fun _ => 0))) = ws2 q r) (k : ∀ q r, WK G nL (ws2 q r) (c1 + 1 + N) (s1 + N + N * M) (pc + 4) lv (Value.ref q :: st)) : WK G nL ws c1 s1 pc lv (vI m2 :: vI n :: st) := by
  obtain ⟨p, l, e, R, s, m, args, below, meth, c, Q, D, ad, cT, A, cl, sl⟩ := G
  obtain ⟨hx, hb, hml, hown, hts, hlk, hK, hA, hO1, hO2, hfr, hlo, hcl, hsl⟩ := C
  intro H locs ls hP hD hS hl
  subst hN
  subst hM
  have hr : r32 (N : Int) := ⟨by omega, by omega⟩
  have hr2 : r32 (M : Int) := ⟨by omega, by omega⟩
  have hcy : s.vm.findClass (FieldType.array .int).toString = some (cT 0) := (hK.2 0 _ rfl).2
  have hP0 : va_P D vwCl (ws ++ va_pl [] (fun _ => .inl (cT 0, M, .inl fun _ => 0))) H := by rw [show va_pl [] _ = ([] : va_W) from rfl, List.append_nil]; exact hP
  have hD0 : va_D A (ws ++ va_pl [] (fun _ => .inl (cT 0, M, .inl fun _ => 0))) := by rw [show va_pl [] _ = ([] : va_W) from rfl, List.append_nil]; exact hD
  have hb8 : componentBytes .int ≤ 8 := by decide +kernel
  refine va_mna (z := (M, .inl fun _ => 0)) (N' := N) (K' := M) hx hb hown (hts _ hcl0) hO1 (hts _ ha) hcy hK hP0 hD0 hS hA (fun q => ?_) (fun q => ?_) (by rw [g_clamp hr]; rfl) (by rw [g_clamp hr2]; rfl) (by omega) (Nat.le_trans (Nat.mul_le_mul hM2 hb8) (by decide)) (by omega) rfl rfl (by omega) (by omega) (fun c => ?_) hd (fun q r cA H1 hinj hnin hK1 hP1 hD1 hS1 => ?_)
  · have := (lt32 hr r32_0).mp q
    omega
  · have := (lt32 hr2 r32_0).mp q
    omega
  · exact g_innerI c M
  · have e1 : va_RA s cA (.array .int) := (hK1.2 5 _ rfl).2
    have e2 : va_RA s (cT 3) (.array .int) := (hK.2 3 _ rfl).2
    have e3 : cA = cT 3 := Option.some.inj (e1.symm.trans e2)
    subst e3
    have e4 : va_pl ([] ++ (List.range N).map r) (vr_up (fun _ => .inl (cT 0, M, .inl fun _ => 0)) ((List.range N).map r) (.inl (cT 0, (M, .inl fun _ => 0)))) = (List.range N).map (fun i => ((r i, .inl (cT 0, M, .inl fun _ => 0)) : Nat × va_E)) := by
      unfold va_pl
      rw [List.nil_append, List.map_map]
      refine List.map_congr_left (fun i hi => ?_)
      show (r i, vr_up _ _ _ (r i)) = _
      rw [vr_up_in (List.mem_map.mpr ⟨i, hi, rfl⟩)]
    rw [e4] at hP1 hD1
    have hw2 := hw q r
    exact k q r H1 locs ls (by rw [← hw2]; exact hP1) (by rw [← hw2]; exact hD1) hS1 hl
theorem n_mna4 (C : CK G dd cc nL own mc ms) {n m2 : Int} {N M idx : Nat} {ws2 : Nat → (Nat → Nat) → va_W} (hN : n = (N : Int)) (hM : m2 = (M : Int)) (hN2 : N ≤ 300) (hM2 : M ≤ 300) (hcl0 : Cond.classLink own idx ("[" ++ (FieldType.array .long).toString) ∈ gT) (ha : Cond.arrayClass .long ∈ gT) (h1 : c1 + (1 + N) ≤ mc) (h2 : s1 + (N + N * M) ≤ ms) (hd : decode cc pc = .ok (.multianewarray idx 2, 4)) (hw : ∀ q r, (ws ++ [(q, .inl (gcT G 4, N, .inr (.inr (.inr (.inr (fun i => if i < N then some (r i) else none))))))]) ++ (List.range N).map (fun i => (r i, .inl (gcT G 2, M, .inr (.inl fun _ => 0)))) = ws2 q r) (k : ∀ q r, WK G nL (ws2 q r) (c1 + 1 + N) (s1 + N + N * M) (pc + 4) lv (Value.ref q :: st)) : WK G nL ws c1 s1 pc lv (vI m2 :: vI n :: st) := by
  obtain ⟨p, l, e, R, s, m, args, below, meth, c, Q, D, ad, cT, A, cl, sl⟩ := G
  obtain ⟨hx, hb, hml, hown, hts, hlk, hK, hA, hO1, hO2, hfr, hlo, hcl, hsl⟩ := C
  intro H locs ls hP hD hS hl
  subst hN
  subst hM
  have hr : r32 (N : Int) := ⟨by omega, by omega⟩
  have hr2 : r32 (M : Int) := ⟨by omega, by omega⟩
  have hcy : s.vm.findClass (FieldType.array .long).toString = some (cT 2) := (hK.2 2 _ rfl).2
  have hP0 : va_P D vwCl (ws ++ va_pl [] (fun _ => .inl (cT 2, M, .inr (.inl fun _ => 0)))) H := by rw [show va_pl [] _ = ([] : va_W) from rfl, List.append_nil]; exact hP
  have hD0 : va_D A (ws ++ va_pl [] (fun _ => .inl (cT 2, M, .inr (.inl fun _ => 0)))) := by rw [show va_pl [] _ = ([] : va_W) from rfl, List.append_nil]; exact hD
  have hb8 : componentBytes .long ≤ 8 := by decide +kernel
  refine va_mna (z := (M, .inr (.inl fun _ => 0))) (N' := N) (K' := M) hx hb hown (hts _ hcl0) hO2 (hts _ ha) hcy hK hP0 hD0 hS hA (fun q => ?_) (fun q => ?_) (by rw [g_clamp hr]; rfl) (by rw [g_clamp hr2]; rfl) (by omega) (Nat.le_trans (Nat.mul_le_mul hM2 hb8) (by decide)) (by omega) rfl rfl (by omega) (by omega) (fun c => ?_) hd (fun q r cA H1 hinj hnin hK1 hP1 hD1 hS1 => ?_)
  · have := (lt32 hr r32_0).mp q
    omega
  · have := (lt32 hr2 r32_0).mp q
    omega
  · exact g_innerJ c M
  · have e1 : va_RA s cA (.array .long) := (hK1.2 5 _ rfl).2
    have e2 : va_RA s (cT 4) (.array .long) := (hK.2 4 _ rfl).2
    have e3 : cA = cT 4 := Option.some.inj (e1.symm.trans e2)
    subst e3
    have e4 : va_pl ([] ++ (List.range N).map r) (vr_up (fun _ => .inl (cT 2, M, .inr (.inl fun _ => 0))) ((List.range N).map r) (.inl (cT 2, (M, .inr (.inl fun _ => 0))))) = (List.range N).map (fun i => ((r i, .inl (cT 2, M, .inr (.inl fun _ => 0))) : Nat × va_E)) := by
      unfold va_pl
      rw [List.nil_append, List.map_map]
      refine List.map_congr_left (fun i hi => ?_)
      show (r i, vr_up _ _ _ (r i)) = _
      rw [vr_up_in (List.mem_map.mpr ⟨i, hi, rfl⟩)]
    rw [e4] at hP1 hD1
    have hw2 := hw q r
    exact k q r H1 locs ls (by rw [← hw2]; exact hP1) (by rw [← hw2]; exact hD1) hS1 hl
theorem n_put (C : CK G dd cc nL own mc ms) {a j ci idx : Nat} {fs : List Value} {tl : va_W} {Cn : String} {T : u_T} {N : Nat} {ty0 : Nat → FieldType} {ty : FieldType} {v : Value} (hc : vwCl[ci]? = some (Cn, T, N)) (hty : ∀ k, k < N → parseFieldDescriptor (T k).2.2.1 = some (ty0 k)) (hnm : ∀ a, a < N → ∀ b, b < N → a ≠ b → (T a).2.1 ≠ (T b).2.1) (hj2 : j < N) (hl2 : Cond.fieldLink own idx (T j).1 (T j).2.1 (T j).2.2.1 ∈ gT) (hfin : (T j).2.2.2 = false) (ht : ty0 j = ty) (hn : narrow ty v = v) (hfit : fits ty v = true) (hjl : j < fs.length) (hd : decode cc pc = .ok (.putfield idx, 3)) {fs2 : List Value} (hf2 : fs.set j v = fs2) (k : WK G nL ((a, .inr (ci, fs2)) :: tl) c1 s1 (pc + 3) lv st) : WK G nL ((a, .inr (ci, fs)) :: tl) c1 s1 pc lv (v :: Value.ref a :: st) := by
  obtain ⟨p, l, e, R, s, m, args, below, meth, c, Q, D, ad, cT, A, cl, sl⟩ := G
  obtain ⟨hx, hb, hml, hown, hts, hlk, hK, hA, hO1, hO2, hfr, hlo, hcl, hsl⟩ := C
  intro H locs ls hP hD hS hl
  subst hf2
  refine va_put (v := v) (ty := ty) hx hb hts (gIn ci _ hc) ty0 hty hnm hown hK hP hD hS 0 rfl hc j hj2 (hts _ hl2) (fun _ h9 => h9) hfin (by rw [← ht]; exact hty j hj2) hn hfit hjl hd (fun H1 locs1 hP1 hD1 hS1 => ?_)
  exact k H1 locs1 ls hP1 hD1 hS1 hl
theorem n_putF (C : CK G dd cc nL own mc ms) {a j ci idx : Nat} {fs : List Value} {tl : va_W} {Cn : String} {T : u_T} {N : Nat} {ty0 : Nat → FieldType} {ty : FieldType} {v : Value} (hc : vwCl[ci]? = some (Cn, T, N)) (hty : ∀ k, k < N → parseFieldDescriptor (T k).2.2.1 = some (ty0 k)) (hnm : ∀ a, a < N → ∀ b, b < N → a ≠ b → (T a).2.1 ≠ (T b).2.1) (hj2 : j < N) (hl2 : Cond.fieldLink own idx (T j).1 (T j).2.1 (T j).2.2.1 ∈ gT) (hfin : (T j).2.2.2 = true) (hini : gIni G) (hdec : (T j).1 = own) (ht : ty0 j = ty) (hn : narrow ty v = v) (hfit : fits ty v = true) (hjl : j < fs.length) (hd : decode cc pc = .ok (.putfield idx, 3)) {fs2 : List Value} (hf2 : fs.set j v = fs2) (k : WK G nL ((a, .inr (ci, fs2)) :: tl) c1 s1 (pc + 3) lv st) : WK G nL ((a, .inr (ci, fs)) :: tl) c1 s1 pc lv (v :: Value.ref a :: st) := by
  obtain ⟨p, l, e, R, s, m, args, below, meth, c, Q, D, ad, cT, A, cl, sl⟩ := G
  obtain ⟨hx, hb, hml, hown, hts, hlk, hK, hA, hO1, hO2, hfr, hlo, hcl, hsl⟩ := C
  intro H locs ls hP hD hS hl
  subst hf2
  refine va_putF (v := v) (ty := ty) hx hb hts (gIn ci _ hc) ty0 hty hnm hown hK hP hD hS 0 rfl hc j hj2 (hts _ hl2) (fun _ h9 => h9) hfin hini hdec (by rw [← ht]; exact hty j hj2) hn hfit hjl hd (fun H1 locs1 hP1 hD1 hS1 => ?_)
  exact k H1 locs1 ls hP1 hD1 hS1 hl
theorem n_get (C : CK G dd cc nL own mc ms) {a j ci idx : Nat} {fs : List Value} {tl : va_W} {Cn : String} {T : u_T} {N : Nat} {v : Value} (hc : vwCl[ci]? = some (Cn, T, N)) (hj2 : j < N) (hl2 : Cond.fieldLink own idx (T j).1 (T j).2.1 (T j).2.2.1 ∈ gT) (hv : fs[j]? = some v) (hd : decode cc pc = .ok (.getfield idx, 3)) (k : WK G nL ((a, .inr (ci, fs)) :: tl) c1 s1 (pc + 3) lv (v :: st)) : WK G nL ((a, .inr (ci, fs)) :: tl) c1 s1 pc lv (Value.ref a :: st) := by
  obtain ⟨p, l, e, R, s, m, args, below, meth, c, Q, D, ad, cT, A, cl, sl⟩ := G
  obtain ⟨hx, hb, hml, hown, hts, hlk, hK, hA, hO1, hO2, hfr, hlo, hcl, hsl⟩ := C
  intro H locs ls hP hD hS hl
  exact va_get (v := v) hx hb hts (gIn ci _ hc) hown hK hP 0 rfl hc j hj2 (hts _ hl2) (fun _ h9 => h9) hv hd (k H locs ls hP hD hS hl)
theorem n_new (C : CK G dd cc nL own mc ms) {ci idx : Nat} {Cn : String} {T : u_T} {N : Nat} {ty : Nat → FieldType} {fs : List Value} {ws2 : Nat → va_W} (hc : vwCl[ci]? = some (Cn, T, N)) (hty : ∀ k, k < N → parseFieldDescriptor (T k).2.2.1 = some (ty k)) (hfs : ∀ j, j < N → defaultValue (ty j) = vp_V fs j) (h1 : Cond.classLink own idx Cn ∈ gT) (h2 : Cond.instantiable Cn N ∈ gT) (h3 : Cond.initialized Cn ∈ gT) (h4 : c1 + 1 ≤ mc) (h5 : s1 + N ≤ ms) (hd : decode cc pc = .ok (.new idx, 3)) (hw : ∀ q, ws ++ [(q, .inr (ci, fs))] = ws2 q) (k : ∀ q, WK G nL (ws2 q) (c1 + 1) (s1 + N) (pc + 3) lv (Value.ref q :: st)) : WK G nL ws c1 s1 pc lv st := by
  obtain ⟨p, l, e, R, s, m, args, below, meth, c, Q, D, ad, cT, A, cl, sl⟩ := G
  obtain ⟨hx, hb, hml, hown, hts, hlk, hK, hA, hO1, hO2, hfr, hlo, hcl, hsl⟩ := C
  intro H locs ls hP hD hS hl
  refine va_new (fs := fs) hx hb hts (gIn ci _ hc) ty hty hown (hts _ h1) (hts _ h2) (hts _ h3) hK hP hD hS hA hc hfs (by omega) (show s1 + N ≤ R.slots by omega) hd (fun q H1 hP1 hD1 hS1 => ?_)
  have hw2 := hw q
  exact k q H1 locs ls (by rw [← hw2]; exact hP1) (by rw [← hw2]; exact hD1) hS1 hl
theorem n_iast (C : CK G dd cc nL own mc ms) {i0 a N : Nat} {i x : Int} {f : Nat → Int32} {ws2 : va_W} (h0 : ws[i0]? = some (a, .inl (gcT G 0, N, .inl f))) (hi : r32 i) (hi2 : 0 ≤ i ∧ i < (N : Int)) (hd : decode cc pc = .ok (.iastore, 1)) (hw : ws.set i0 (a, .inl (gcT G 0, N, .inl (upd f i.toNat (Int32.ofInt x)))) = ws2) (k : WK G nL ws2 c1 s1 (pc + 1) lv st) : WK G nL ws c1 s1 pc lv (vI x :: vI i :: Value.ref a :: st) := by
  obtain ⟨p, l, e, R, s, m, args, below, meth, c, Q, D, ad, cT, A, cl, sl⟩ := G
  obtain ⟨hx, hb, hml, hown, hts, hlk, hK, hA, hO1, hO2, hfr, hlo, hcl, hsl⟩ := C
  intro H locs ls hP hD hS hl
  subst hw
  refine va_iast hx hb hK hP hD hS i0 0 h0 rfl (vp_in_of_ck hi hi2) hd (fun H1 locs1 hP1 hD1 hS1 => ?_)
  rw [g_clamp hi] at hP1 hD1
  exact k H1 locs1 ls hP1 hD1 hS1 hl
theorem n_alen (C : CK G dd cc nL own mc ms) {i0 a N : Nat} {f : Nat → Int32} (h0 : ws[i0]? = some (a, .inl (gcT G 0, N, .inl f))) (hd : decode cc pc = .ok (.arraylength, 1)) (k : WK G nL ws c1 s1 (pc + 1) lv (vI (N : Int) :: st)) : WK G nL ws c1 s1 pc lv (Value.ref a :: st) := by
  obtain ⟨p, l, e, R, s, m, args, below, meth, c, Q, D, ad, cT, A, cl, sl⟩ := G
  obtain ⟨hx, hb, hml, hown, hts, hlk, hK, hA, hO1, hO2, hfr, hlo, hcl, hsl⟩ := C
  intro H locs ls hP hD hS hl
  exact va_alen hx hb hK hP i0 0 h0 (ty := .int) rfl (show Int32.ofNat N = Int32.ofInt N from (Int32.ofInt_eq_ofNat).symm) hd (k H locs ls hP hD hS hl)
end GK