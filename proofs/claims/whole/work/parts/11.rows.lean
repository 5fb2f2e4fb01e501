/-! the words that callees may take over -/
def gIsNest (w : Cond) : Bool := match w with
  | .methodLinkNest .. => true
  | .fieldLinkNest .. => true
  | _ => false
def gOk (w : Cond) : Bool := goodWord w || gIsNest w
def gT : List Cond := lw_tbl.filter gOk
theorem gT_of {w : Cond} (h : w ∈ lw_tbl) (hg : gOk w = true) : w ∈ gT := List.mem_filter.mpr ⟨h, hg⟩
/-! the walk's context: a machine, a frame, a world of fixed shape; rows: one an instruction, over memory -/
def gfac (j : Nat) : Int := match j with
  | 2 => 2
  | 3 => 6
  | _ => 1
def gSF (ad : Nat → Nat) (A : Nat → Prop) (U : State) (H : Heap) : Prop := va_Z "GroundWaters" "FACTORIAL" "[I" (.ref (ad 998)) A U H ∧ va_T .int (ad 998) 4 (fun j => .int (Int32.ofInt (gfac j))) A U H
abbrev GX : Type := Program × Launch × Env × Room × State × MethodId × Array Value × List Frame × Method × Code × (State → Prop) × va_G × (Nat → Nat) × (Nat → ClassId) × (Nat → Prop) × Nat × Nat
abbrev gad (G : GX) : Nat → Nat := G.2.2.2.2.2.2.2.2.2.2.2.2.1
abbrev gR (G : GX) (k : Nat) : Value := .ref (gad G k)
def WM (G : GX) (nL : Nat) (μ : GM) (pc : Nat) (lv : List (Nat × Value)) (st : List Value) : Prop := match G with
  | (p, l, e, R, s, m, args, below, meth, c, Q, D, ad, cT, A, cl, sl) => ∀ (H : Heap) (locs : List Loc) (ls : Array Slot), va_P D vwCl (gWs ad cT μ) H → va_S A s.heap H locs → lv_has ls nL lv → W p l e R s m args below meth c H locs cl sl Q (F0 m pc ls st)
def CX (G : GX) (dd : Nat) (cc : ByteArray) (nL : Nat) (own : String) : Prop := match G with
  | (p, l, e, R, s, m, args, below, meth, c, Q, D, ad, cT, A, cl, sl) => p.tables.exec = Jvm.exec ∧ c.code = cc ∧ c.maxLocals = nL ∧ s.vm.findClass own = some m.cls ∧ (∀ w ∈ gT, w.before args s = true) ∧ meth.locks = false ∧ va_K D vwCl (gTy cT) s ∧ gInj ad ∧ (∀ k, k < gKT.length → A (ad k)) ∧ (∀ q, s.heap.size ≤ q → A q) ∧ gSF ad A s s.heap ∧ dd ≤ R.frames ∧ 39 * dd ≤ R.locals ∧ cl ≤ R.cells ∧ sl ≤ R.slots
/-- checks, names, calls in the pure functions -/
def ck {α : Type} (c : Prop) [Decidable c] (x : Option α) : Option α := if c then x else none
def lt {α : Type} (x : Int) (k : Int → Option α) : Option α := k x
def lm {α : Type} (μ : GM) (k : GM → Option α) : Option α := k μ
def bd {α : Type} (o : Option (Int × GM)) (k : Int → GM → Option α) : Option α := match o with
  | none => none
  | some q => k q.1 q.2
theorem ck_some {α : Type} {c : Prop} [Decidable c] {x : Option α} {u : α} (h : ck c x = some u) : c ∧ x = some u := by
  unfold ck at h
  split at h
  · exact ⟨by assumption, h⟩
  · cases h
theorem bd_some {α : Type} {o : Option (Int × GM)} {k : Int → GM → Option α} {u : α} (h : bd o k = some u) : ∃ q, o = some q ∧ k q.1 q.2 = some u := by
  cases o with
  | none => cases h
  | some q => exact ⟨q, rfl, h⟩
theorem ite_some {α : Type} {c : Prop} [Decidable c] {x y : Option α} {u : α} (h : (if c then x else y) = some u) : (c ∧ x = some u) ∨ (¬ c ∧ y = some u) := by
  split at h
  · exact Or.inl ⟨by assumption, h⟩
  · exact Or.inr ⟨by assumption, h⟩
theorem vp_in_of_ck {i : Int} {n : Nat} (hi : r32 i) (h : 0 ≤ i ∧ i < n) : vp_in (Int32.ofInt i) n := vp_in_iff.mpr (by rw [ti32 hi]; exact h)
theorem g_clamp {i : Int} (hi : r32 i) : (Int32.ofInt i).toNatClampNeg = i.toNat := Int32.toNatClampNeg_ofInt_of_le (by have := hi.1; omega) (by have := hi.2; omega)
theorem ofInt_toNat {i : Int} (h : 0 ≤ i) : ((i.toNat : Nat) : Int) = i := Int.toNat_of_nonneg h
theorem gIn : ∀ (ci : Nat) (q : vw_C), vwCl[ci]? = some q → ∀ w ∈ u_ws q.1 q.2.1 q.2.2, w ∈ gT := by
  have h : ∀ q ∈ vwCl, ∀ w ∈ u_ws q.1 q.2.1 q.2.2, w ∈ lw_tbl ∧ gOk w = true := by decide +kernel
  exact fun ci q hq w hw => gT_of (h q (List.mem_of_getElem? hq) w hw).1 (h q (List.mem_of_getElem? hq) w hw).2
section GR
variable {G : GX} {dd : Nat} {cc : ByteArray} {nL : Nat} {own : String} {μ : GM} {pc : Nat} {lv : List (Nat × Value)} {st : List Value}
theorem WM.sub {lv' : List (Nat × Value)} (ks : List Nat) (hl : lv_pick lv ks = lv') (k : WM G nL μ pc lv' st) : WM G nL μ pc lv st := by
  obtain ⟨p, l, e, R, s, m, args, below, meth, c, Q, D, ad, cT, A, cl, sl⟩ := G
  exact fun H locs ls hP hS h => k H locs ls hP hS (lv_sub h ks hl)
theorem o_lt {α : Type} {x : Int} {f : Int → Option α} {u : α} (h : lt x f = some u) (hr : r32 x) (kk : ∀ z, r32 z → f z = some u → WM G nL μ pc lv (vI z :: st)) : WM G nL μ pc lv (vI x :: st) := kk x hr h
theorem o_ltl {α : Type} {x : Int} {f : Int → Option α} {u : α} (h : lt x f = some u) (hr : r64 x) (kk : ∀ z, r64 z → f z = some u → WM G nL μ pc lv (vJ z :: st)) : WM G nL μ pc lv (vJ x :: st) := kk x hr h

theorem o_iconst (C : CX G dd cc nL own) {n : Int} (hd : decode cc pc = .ok (.iconst n, 1)) (k : WM G nL μ (pc + 1) lv (vI n :: st)) : WM G nL μ pc lv st := by
  obtain ⟨p, l, e, R, s, m, args, below, meth, c, Q, D, ad, cT, A, cl, sl⟩ := G
  obtain ⟨hx, hb, hml, hown, hts, hlk, hK, hJ, hAd, hA, hSF, hfr, hlo, hcl, hsl⟩ := C
  intro H locs ls hP hS hl
  exact lv_iconst hx hb hd rfl (k H locs ls hP hS hl)
theorem o_bipush (C : CX G dd cc nL own) {n v : Int} (hd : decode cc pc = .ok (.bipush n, 2)) (hv : (Int8.ofInt n).toInt32 = Int32.ofInt v) (k : WM G nL μ (pc + 2) lv (vI v :: st)) : WM G nL μ pc lv st := by
  obtain ⟨p, l, e, R, s, m, args, below, meth, c, Q, D, ad, cT, A, cl, sl⟩ := G
  obtain ⟨hx, hb, hml, hown, hts, hlk, hK, hJ, hAd, hA, hSF, hfr, hlo, hcl, hsl⟩ := C
  intro H locs ls hP hS hl
  exact lv_bipush hx hb hd hv (k H locs ls hP hS hl)
theorem o_sipush (C : CX G dd cc nL own) {n v : Int} (hd : decode cc pc = .ok (.sipush n, 3)) (hv : (Int16.ofInt n).toInt32 = Int32.ofInt v) (k : WM G nL μ (pc + 3) lv (vI v :: st)) : WM G nL μ pc lv st := by
  obtain ⟨p, l, e, R, s, m, args, below, meth, c, Q, D, ad, cT, A, cl, sl⟩ := G
  obtain ⟨hx, hb, hml, hown, hts, hlk, hK, hJ, hAd, hA, hSF, hfr, hlo, hcl, hsl⟩ := C
  intro H locs ls hP hS hl
  exact lv_sipush hx hb hd hv (k H locs ls hP hS hl)
theorem o_lconst (C : CX G dd cc nL own) {n : Fin 2} {v : Int} (hd : decode cc pc = .ok (.lconst n, 1)) (hv : Int64.ofNat (n : Nat) = Int64.ofInt v) (k : WM G nL μ (pc + 1) lv (vJ v :: st)) : WM G nL μ pc lv st := by
  obtain ⟨p, l, e, R, s, m, args, below, meth, c, Q, D, ad, cT, A, cl, sl⟩ := G
  obtain ⟨hx, hb, hml, hown, hts, hlk, hK, hJ, hAd, hA, hSF, hfr, hlo, hcl, hsl⟩ := C
  intro H locs ls hP hS hl
  exact lv_lconst hx hb hd hv (k H locs ls hP hS hl)
theorem o_ldc (C : CX G dd cc nL own) {idx : Nat} {v : Int} {v2 : Int32} (hc : Cond.constant own idx v2 ∈ gT) (hv : v2 = Int32.ofInt v) (hd : decode cc pc = .ok (.ldc idx, 2)) (k : WM G nL μ (pc + 2) lv (vI v :: st)) : WM G nL μ pc lv st := by
  obtain ⟨p, l, e, R, s, m, args, below, meth, c, Q, D, ad, cT, A, cl, sl⟩ := G
  obtain ⟨hx, hb, hml, hown, hts, hlk, hK, hJ, hAd, hA, hSF, hfr, hlo, hcl, hsl⟩ := C
  intro H locs ls hP hS hl
  subst hv
  exact lv_ldc hx hb hown (hts _ hc) hd (k H locs ls hP hS hl)
theorem o_ldc2 (C : CX G dd cc nL own) {idx : Nat} {v : Int} {v2 : Int64} (hc : Cond.constantLong own idx v2 ∈ gT) (hv : v2 = Int64.ofInt v) (hd : decode cc pc = .ok (.ldc2_w idx, 3)) (k : WM G nL μ (pc + 3) lv (vJ v :: st)) : WM G nL μ pc lv st := by
  obtain ⟨p, l, e, R, s, m, args, below, meth, c, Q, D, ad, cT, A, cl, sl⟩ := G
  obtain ⟨hx, hb, hml, hown, hts, hlk, hK, hJ, hAd, hA, hSF, hfr, hlo, hcl, hsl⟩ := C
  intro H locs ls hP hS hl
  subst hv
  exact lv_ldc2 hx hb hown (hts _ hc) hd (k H locs ls hP hS hl)
theorem o_ldcw (C : CX G dd cc nL own) {idx : Nat} {v : Int} {v2 : Int32} (hc : Cond.constant own idx v2 ∈ gT) (hv : v2 = Int32.ofInt v) (hd : decode cc pc = .ok (.ldc_w idx, 3)) (k : WM G nL μ (pc + 3) lv (vI v :: st)) : WM G nL μ pc lv st := by
  obtain ⟨p, l, e, R, s, m, args, below, meth, c, Q, D, ad, cT, A, cl, sl⟩ := G
  obtain ⟨hx, hb, hml, hown, hts, hlk, hK, hJ, hAd, hA, hSF, hfr, hlo, hcl, hsl⟩ := C
  intro H locs ls hP hS hl
  subst hv
  exact lv_ldcw hx hb hown (hts _ hc) hd (k H locs ls hP hS hl)
theorem o_tableIn (C : CX G dd cc nL own) {x v dflt lo hi off : Int} {offs : Array Int} {len tgt : Nat} (e1 : x = v) (hv : r32 v) (hd : decode cc pc = .ok (.tableswitch dflt lo hi offs, len)) (h1 : lo ≤ v) (h2 : v ≤ hi) (ho : offs[(v - lo).toNat]? = some off) (ht : (pc : Int) + off = (tgt : Int)) (k : WM G nL μ (tgt) lv (st)) : WM G nL μ pc lv (vI x :: st) := by
  obtain ⟨p, l, e, R, s, m, args, below, meth, c, Q, D, ad, cT, A, cl, sl⟩ := G
  obtain ⟨hx, hb, hml, hown, hts, hlk, hK, hJ, hAd, hA, hSF, hfr, hlo, hcl, hsl⟩ := C
  intro H locs ls hP hS hl
  subst e1
  exact lv_tableIn hx hb hd (by rw [ti32 hv]; omega) (by rw [ti32 hv]; omega) (by rw [ti32 hv]; exact ho) ht (k H locs ls hP hS hl)
theorem o_tableOut (C : CX G dd cc nL own) {x dflt lo hi : Int} {offs : Array Int} {len tgt : Nat} (hx2 : r32 x) (hd : decode cc pc = .ok (.tableswitch dflt lo hi offs, len)) (h : x < lo ∨ hi < x) (ht : (pc : Int) + dflt = (tgt : Int)) (k : WM G nL μ (tgt) lv (st)) : WM G nL μ pc lv (vI x :: st) := by
  obtain ⟨p, l, e, R, s, m, args, below, meth, c, Q, D, ad, cT, A, cl, sl⟩ := G
  obtain ⟨hx, hb, hml, hown, hts, hlk, hK, hJ, hAd, hA, hSF, hfr, hlo, hcl, hsl⟩ := C
  intro H locs ls hP hS hl
  exact lv_tableOut hx hb hd (by rw [ti32 hx2]; exact h) ht (k H locs ls hP hS hl)
theorem o_look (C : CX G dd cc nL own) {x dflt off : Int} {ps : Array (Int × Int)} {len tgt : Nat} (hx2 : r32 x) (hd : decode cc pc = .ok (.lookupswitch dflt ps, len)) (hp : (ps.toList.zip (ps.toList.drop 1)).all (fun (a, next) => a.1 < next.1) = true) (ho : Op.lookupswitch.offset ps.toList dflt x = off) (ht : (pc : Int) + off = (tgt : Int)) (k : WM G nL μ (tgt) lv (st)) : WM G nL μ pc lv (vI x :: st) := by
  obtain ⟨p, l, e, R, s, m, args, below, meth, c, Q, D, ad, cT, A, cl, sl⟩ := G
  obtain ⟨hx, hb, hml, hown, hts, hlk, hK, hJ, hAd, hA, hSF, hfr, hlo, hcl, hsl⟩ := C
  intro H locs ls hP hS hl
  exact lv_lookup hx hb hd hp (by rw [ti32 hx2]; exact ho) ht (k H locs ls hP hS hl)
theorem o_iload_n (C : CX G dd cc nL own) {kf : Fin 4} {i : Nat} {x : Int} (pl : Nat) (hd : decode cc pc = .ok (.iload_n kf, 1)) (hi : (kf : Nat) = i) (hpl : lv[pl]? = some (i, vI x)) (k : WM G nL μ (pc + 1) lv (vI x :: st)) : WM G nL μ pc lv st := by
  obtain ⟨p, l, e, R, s, m, args, below, meth, c, Q, D, ad, cT, A, cl, sl⟩ := G
  obtain ⟨hx, hb, hml, hown, hts, hlk, hK, hJ, hAd, hA, hSF, hfr, hlo, hcl, hsl⟩ := C
  intro H locs ls hP hS hl
  exact lv_iload_n hx hb hd hi (lv_at hl pl hpl) (k H locs ls hP hS hl)
theorem o_iload (C : CX G dd cc nL own) {i : Nat} {x : Int} (pl : Nat) (hd : decode cc pc = .ok (.iload i, 2)) (hpl : lv[pl]? = some (i, vI x)) (k : WM G nL μ (pc + 2) lv (vI x :: st)) : WM G nL μ pc lv st := by
  obtain ⟨p, l, e, R, s, m, args, below, meth, c, Q, D, ad, cT, A, cl, sl⟩ := G
  obtain ⟨hx, hb, hml, hown, hts, hlk, hK, hJ, hAd, hA, hSF, hfr, hlo, hcl, hsl⟩ := C
  intro H locs ls hP hS hl
  exact lv_iload hx hb hd (lv_at hl pl hpl) (k H locs ls hP hS hl)
theorem o_lload_n (C : CX G dd cc nL own) {kf : Fin 4} {i : Nat} {x : Int} (pl : Nat) (hd : decode cc pc = .ok (.lload_n kf, 1)) (hi : (kf : Nat) = i) (hpl : lv[pl]? = some (i, vJ x)) (k : WM G nL μ (pc + 1) lv (vJ x :: st)) : WM G nL μ pc lv st := by
  obtain ⟨p, l, e, R, s, m, args, below, meth, c, Q, D, ad, cT, A, cl, sl⟩ := G
  obtain ⟨hx, hb, hml, hown, hts, hlk, hK, hJ, hAd, hA, hSF, hfr, hlo, hcl, hsl⟩ := C
  intro H locs ls hP hS hl
  exact lv_lload_n hx hb hd hi (lv_at hl pl hpl) (k H locs ls hP hS hl)
theorem o_lload (C : CX G dd cc nL own) {i : Nat} {x : Int} (pl : Nat) (hd : decode cc pc = .ok (.lload i, 2)) (hpl : lv[pl]? = some (i, vJ x)) (k : WM G nL μ (pc + 2) lv (vJ x :: st)) : WM G nL μ pc lv st := by
  obtain ⟨p, l, e, R, s, m, args, below, meth, c, Q, D, ad, cT, A, cl, sl⟩ := G
  obtain ⟨hx, hb, hml, hown, hts, hlk, hK, hJ, hAd, hA, hSF, hfr, hlo, hcl, hsl⟩ := C
  intro H locs ls hP hS hl
  exact lv_lload hx hb hd (lv_at hl pl hpl) (k H locs ls hP hS hl)
theorem o_aload_n (C : CX G dd cc nL own) {kf : Fin 4} {i : Nat} {x : Nat} (pl : Nat) (hd : decode cc pc = .ok (.aload_n kf, 1)) (hi : (kf : Nat) = i) (hpl : lv[pl]? = some (i, gR G x)) (k : WM G nL μ (pc + 1) lv (gR G x :: st)) : WM G nL μ pc lv st := by
  obtain ⟨p, l, e, R, s, m, args, below, meth, c, Q, D, ad, cT, A, cl, sl⟩ := G
  obtain ⟨hx, hb, hml, hown, hts, hlk, hK, hJ, hAd, hA, hSF, hfr, hlo, hcl, hsl⟩ := C
  intro H locs ls hP hS hl
  exact lv_aload_n hx hb hd hi (lv_at hl pl hpl) (k H locs ls hP hS hl)
theorem o_aload (C : CX G dd cc nL own) {i : Nat} {x : Nat} (pl : Nat) (hd : decode cc pc = .ok (.aload i, 2)) (hpl : lv[pl]? = some (i, gR G x)) (k : WM G nL μ (pc + 2) lv (gR G x :: st)) : WM G nL μ pc lv st := by
  obtain ⟨p, l, e, R, s, m, args, below, meth, c, Q, D, ad, cT, A, cl, sl⟩ := G
  obtain ⟨hx, hb, hml, hown, hts, hlk, hK, hJ, hAd, hA, hSF, hfr, hlo, hcl, hsl⟩ := C
  intro H locs ls hP hS hl
  exact lv_aload hx hb hd (lv_at hl pl hpl) (k H locs ls hP hS hl)
theorem o_istore_n (C : CX G dd cc nL own) {kf : Fin 4} {i : Nat} {x : Int} {lv2 : List (Nat × Value)} (hd : decode cc pc = .ok (.istore_n kf, 1)) (hi : (kf : Nat) = i) (hn : i < nL) (hl2 : (i, vI x) :: lv.filter (fun q => !(q.1 == i) && !(q.1 + 1 == i && q.2.category == 2)) = lv2) (k : WM G nL μ (pc + 1) lv2 (st)) : WM G nL μ pc lv (vI x :: st) := by
  obtain ⟨p, l, e, R, s, m, args, below, meth, c, Q, D, ad, cT, A, cl, sl⟩ := G
  obtain ⟨hx, hb, hml, hown, hts, hlk, hK, hJ, hAd, hA, hSF, hfr, hlo, hcl, hsl⟩ := C
  intro H locs ls hP hS hl
  exact lv_istore_n hx hb hd hi hl hn hl2 (fun ls hl => k H locs ls hP hS hl)
theorem o_istore (C : CX G dd cc nL own) {i : Nat} {x : Int} {lv2 : List (Nat × Value)} (hd : decode cc pc = .ok (.istore i, 2)) (hn : i < nL) (hl2 : (i, vI x) :: lv.filter (fun q => !(q.1 == i) && !(q.1 + 1 == i && q.2.category == 2)) = lv2) (k : WM G nL μ (pc + 2) lv2 (st)) : WM G nL μ pc lv (vI x :: st) := by
  obtain ⟨p, l, e, R, s, m, args, below, meth, c, Q, D, ad, cT, A, cl, sl⟩ := G
  obtain ⟨hx, hb, hml, hown, hts, hlk, hK, hJ, hAd, hA, hSF, hfr, hlo, hcl, hsl⟩ := C
  intro H locs ls hP hS hl
  exact lv_istore hx hb hd hl hn hl2 (fun ls hl => k H locs ls hP hS hl)
theorem o_lstore_n (C : CX G dd cc nL own) {kf : Fin 4} {i : Nat} {x : Int} {lv2 : List (Nat × Value)} (hd : decode cc pc = .ok (.lstore_n kf, 1)) (hi : (kf : Nat) = i) (hn : i + 1 < nL) (hl2 : (i, vJ x) :: lv.filter (fun q => !(q.1 == i) && (!(q.1 == i + 1) && !(q.1 + 1 == i && q.2.category == 2))) = lv2) (k : WM G nL μ (pc + 1) lv2 (st)) : WM G nL μ pc lv (vJ x :: st) := by
  obtain ⟨p, l, e, R, s, m, args, below, meth, c, Q, D, ad, cT, A, cl, sl⟩ := G
  obtain ⟨hx, hb, hml, hown, hts, hlk, hK, hJ, hAd, hA, hSF, hfr, hlo, hcl, hsl⟩ := C
  intro H locs ls hP hS hl
  exact lv_lstore_n hx hb hd hi hl hn hl2 (fun ls hl => k H locs ls hP hS hl)
theorem o_lstore (C : CX G dd cc nL own) {i : Nat} {x : Int} {lv2 : List (Nat × Value)} (hd : decode cc pc = .ok (.lstore i, 2)) (hn : i + 1 < nL) (hl2 : (i, vJ x) :: lv.filter (fun q => !(q.1 == i) && (!(q.1 == i + 1) && !(q.1 + 1 == i && q.2.category == 2))) = lv2) (k : WM G nL μ (pc + 2) lv2 (st)) : WM G nL μ pc lv (vJ x :: st) := by
  obtain ⟨p, l, e, R, s, m, args, below, meth, c, Q, D, ad, cT, A, cl, sl⟩ := G
  obtain ⟨hx, hb, hml, hown, hts, hlk, hK, hJ, hAd, hA, hSF, hfr, hlo, hcl, hsl⟩ := C
  intro H locs ls hP hS hl
  exact lv_lstore hx hb hd hl hn hl2 (fun ls hl => k H locs ls hP hS hl)
theorem o_astore_n (C : CX G dd cc nL own) {kf : Fin 4} {i : Nat} {x : Nat} {lv2 : List (Nat × Value)} (hd : decode cc pc = .ok (.astore_n kf, 1)) (hi : (kf : Nat) = i) (hn : i < nL) (hl2 : (i, gR G x) :: lv.filter (fun q => !(q.1 == i) && !(q.1 + 1 == i && q.2.category == 2)) = lv2) (k : WM G nL μ (pc + 1) lv2 (st)) : WM G nL μ pc lv (gR G x :: st) := by
  obtain ⟨p, l, e, R, s, m, args, below, meth, c, Q, D, ad, cT, A, cl, sl⟩ := G
  obtain ⟨hx, hb, hml, hown, hts, hlk, hK, hJ, hAd, hA, hSF, hfr, hlo, hcl, hsl⟩ := C
  intro H locs ls hP hS hl
  exact lv_astore_n hx hb hd hi hl hn hl2 (fun ls hl => k H locs ls hP hS hl)
theorem o_astore (C : CX G dd cc nL own) {i : Nat} {x : Nat} {lv2 : List (Nat × Value)} (hd : decode cc pc = .ok (.astore i, 2)) (hn : i < nL) (hl2 : (i, gR G x) :: lv.filter (fun q => !(q.1 == i) && !(q.1 + 1 == i && q.2.category == 2)) = lv2) (k : WM G nL μ (pc + 2) lv2 (st)) : WM G nL μ pc lv (gR G x :: st) := by
  obtain ⟨p, l, e, R, s, m, args, below, meth, c, Q, D, ad, cT, A, cl, sl⟩ := G
  obtain ⟨hx, hb, hml, hown, hts, hlk, hK, hJ, hAd, hA, hSF, hfr, hlo, hcl, hsl⟩ := C
  intro H locs ls hP hS hl
  exact lv_astore hx hb hd hl hn hl2 (fun ls hl => k H locs ls hP hS hl)
theorem o_iinc (C : CX G dd cc nL own) {α : Type} {i : Nat} {n x : Int} {f : Int → Option α} {u : α} {lv2 : Int → List (Nat × Value)} (pl : Nat) (hd : decode cc pc = .ok (.iinc i n, 3)) (hpl : lv[pl]? = some (i, vI x)) (hn : i < nL) (hl2 : ∀ z, (i, vI z) :: lv.filter (fun q => !(q.1 == i) && !(q.1 + 1 == i && q.2.category == 2)) = lv2 z) (h : lt (w32 (x + n)) f = some u) (kk : ∀ z, r32 z → f z = some u → WM G nL μ (pc + 3) (lv2 z) st) : WM G nL μ pc lv st := by
  obtain ⟨p, l, e, R, s, m, args, below, meth, c, Q, D, ad, cT, A, cl, sl⟩ := G
  obtain ⟨hx, hb, hml, hown, hts, hlk, hK, hJ, hAd, hA, hSF, hfr, hlo, hcl, hsl⟩ := C
  intro H locs ls hP hS hl
  refine lv_iinc (v := Int32.ofInt (w32 (x + n))) hx hb hd hl hpl (by rw [of_w32, Int32.ofInt_add]) hn (hl2 _) (fun ls hl => ?_)
  exact kk _ (r32_w _) h H locs ls hP hS hl
theorem o_iadd (C : CX G dd cc nL own) {x y : Int} (hd : decode cc pc = .ok (.iadd, 1)) (k : WM G nL μ (pc + 1) lv (vI (w32 (x + y)) :: st)) : WM G nL μ pc lv (vI y :: vI x :: st) := by
  obtain ⟨p, l, e, R, s, m, args, below, meth, c, Q, D, ad, cT, A, cl, sl⟩ := G
  obtain ⟨hx, hb, hml, hown, hts, hlk, hK, hJ, hAd, hA, hSF, hfr, hlo, hcl, hsl⟩ := C
  intro H locs ls hP hS hl
  refine lv_iadd hx hb hd ?_
  rw [← Int32.ofInt_add, ← of_w32]
  exact k H locs ls hP hS hl
theorem o_isub (C : CX G dd cc nL own) {x y : Int} (hd : decode cc pc = .ok (.isub, 1)) (k : WM G nL μ (pc + 1) lv (vI (w32 (x - y)) :: st)) : WM G nL μ pc lv (vI y :: vI x :: st) := by
  obtain ⟨p, l, e, R, s, m, args, below, meth, c, Q, D, ad, cT, A, cl, sl⟩ := G
  obtain ⟨hx, hb, hml, hown, hts, hlk, hK, hJ, hAd, hA, hSF, hfr, hlo, hcl, hsl⟩ := C
  intro H locs ls hP hS hl
  refine lv_isub hx hb hd ?_
  rw [← Int32.ofInt_sub, ← of_w32]
  exact k H locs ls hP hS hl
theorem o_imul (C : CX G dd cc nL own) {x y : Int} (hd : decode cc pc = .ok (.imul, 1)) (k : WM G nL μ (pc + 1) lv (vI (w32 (x * y)) :: st)) : WM G nL μ pc lv (vI y :: vI x :: st) := by
  obtain ⟨p, l, e, R, s, m, args, below, meth, c, Q, D, ad, cT, A, cl, sl⟩ := G
  obtain ⟨hx, hb, hml, hown, hts, hlk, hK, hJ, hAd, hA, hSF, hfr, hlo, hcl, hsl⟩ := C
  intro H locs ls hP hS hl
  refine lv_imul hx hb hd ?_
  rw [← Int32.ofInt_mul, ← of_w32]
  exact k H locs ls hP hS hl
theorem o_ladd (C : CX G dd cc nL own) {x y : Int} (hd : decode cc pc = .ok (.ladd, 1)) (k : WM G nL μ (pc + 1) lv (vJ (w64 (x + y)) :: st)) : WM G nL μ pc lv (vJ y :: vJ x :: st) := by
  obtain ⟨p, l, e, R, s, m, args, below, meth, c, Q, D, ad, cT, A, cl, sl⟩ := G
  obtain ⟨hx, hb, hml, hown, hts, hlk, hK, hJ, hAd, hA, hSF, hfr, hlo, hcl, hsl⟩ := C
  intro H locs ls hP hS hl
  refine lv_ladd hx hb hd ?_
  rw [← Int64.ofInt_add, ← of_w64]
  exact k H locs ls hP hS hl
theorem o_lsub (C : CX G dd cc nL own) {x y : Int} (hd : decode cc pc = .ok (.lsub, 1)) (k : WM G nL μ (pc + 1) lv (vJ (w64 (x - y)) :: st)) : WM G nL μ pc lv (vJ y :: vJ x :: st) := by
  obtain ⟨p, l, e, R, s, m, args, below, meth, c, Q, D, ad, cT, A, cl, sl⟩ := G
  obtain ⟨hx, hb, hml, hown, hts, hlk, hK, hJ, hAd, hA, hSF, hfr, hlo, hcl, hsl⟩ := C
  intro H locs ls hP hS hl
  refine lv_lsub hx hb hd ?_
  rw [← Int64.ofInt_sub, ← of_w64]
  exact k H locs ls hP hS hl
theorem o_lmul (C : CX G dd cc nL own) {x y : Int} (hd : decode cc pc = .ok (.lmul, 1)) (k : WM G nL μ (pc + 1) lv (vJ (w64 (x * y)) :: st)) : WM G nL μ pc lv (vJ y :: vJ x :: st) := by
  obtain ⟨p, l, e, R, s, m, args, below, meth, c, Q, D, ad, cT, A, cl, sl⟩ := G
  obtain ⟨hx, hb, hml, hown, hts, hlk, hK, hJ, hAd, hA, hSF, hfr, hlo, hcl, hsl⟩ := C
  intro H locs ls hP hS hl
  refine lv_lmul hx hb hd ?_
  rw [← Int64.ofInt_mul, ← of_w64]
  exact k H locs ls hP hS hl
theorem o_ineg (C : CX G dd cc nL own) {x : Int} (hd : decode cc pc = .ok (.ineg, 1)) (k : WM G nL μ (pc + 1) lv (vI (w32 (-x)) :: st)) : WM G nL μ pc lv (vI x :: st) := by
  obtain ⟨p, l, e, R, s, m, args, below, meth, c, Q, D, ad, cT, A, cl, sl⟩ := G
  obtain ⟨hx, hb, hml, hown, hts, hlk, hK, hJ, hAd, hA, hSF, hfr, hlo, hcl, hsl⟩ := C
  intro H locs ls hP hS hl
  refine lv_ineg hx hb hd ?_
  rw [← Int32.ofInt_neg, ← of_w32]
  exact k H locs ls hP hS hl
theorem o_lneg (C : CX G dd cc nL own) {x : Int} (hd : decode cc pc = .ok (.lneg, 1)) (k : WM G nL μ (pc + 1) lv (vJ (w64 (-x)) :: st)) : WM G nL μ pc lv (vJ x :: st) := by
  obtain ⟨p, l, e, R, s, m, args, below, meth, c, Q, D, ad, cT, A, cl, sl⟩ := G
  obtain ⟨hx, hb, hml, hown, hts, hlk, hK, hJ, hAd, hA, hSF, hfr, hlo, hcl, hsl⟩ := C
  intro H locs ls hP hS hl
  refine lv_lneg hx hb hd ?_
  rw [← Int64.ofInt_neg, ← of_w64]
  exact k H locs ls hP hS hl
theorem o_idiv (C : CX G dd cc nL own) {α : Type} {X : Option α} {u : α} {x y : Int} (hx2 : r32 x) (hy2 : r32 y) (hd : decode cc pc = .ok (.idiv, 1)) (h : ck (y ≠ 0) X = some u) (k : X = some u → WM G nL μ (pc + 1) lv (vI (w32 (x.tdiv y)) :: st)) : WM G nL μ pc lv (vI y :: vI x :: st) := by
  obtain ⟨p, l, e, R, s, m, args, below, meth, c, Q, D, ad, cT, A, cl, sl⟩ := G
  obtain ⟨hx, hb, hml, hown, hts, hlk, hK, hJ, hAd, hA, hSF, hfr, hlo, hcl, hsl⟩ := C
  intro H locs ls hP hS hl
  obtain ⟨h0, h⟩ := ck_some h
  refine lv_idiv hx hb hd (fun q => h0 ((eq32 hy2 r32_0).mp q)) ?_
  rw [a32_div hx2 hy2]
  exact k h H locs ls hP hS hl
theorem o_ldiv (C : CX G dd cc nL own) {α : Type} {X : Option α} {u : α} {x y : Int} (hx2 : r64 x) (hy2 : r64 y) (hd : decode cc pc = .ok (.ldiv, 1)) (h : ck (y ≠ 0) X = some u) (k : X = some u → WM G nL μ (pc + 1) lv (vJ (w64 (x.tdiv y)) :: st)) : WM G nL μ pc lv (vJ y :: vJ x :: st) := by
  obtain ⟨p, l, e, R, s, m, args, below, meth, c, Q, D, ad, cT, A, cl, sl⟩ := G
  obtain ⟨hx, hb, hml, hown, hts, hlk, hK, hJ, hAd, hA, hSF, hfr, hlo, hcl, hsl⟩ := C
  intro H locs ls hP hS hl
  obtain ⟨h0, h⟩ := ck_some h
  refine lv_ldiv hx hb hd (fun q => h0 ((eq64 hy2 (r32_r64 r32_0)).mp q)) ?_
  rw [a64_div hx2 hy2]
  exact k h H locs ls hP hS hl
theorem o_irem (C : CX G dd cc nL own) {α : Type} {X : Option α} {u : α} {x y : Int} (hx2 : r32 x) (hy2 : r32 y) (hd : decode cc pc = .ok (.irem, 1)) (h : ck (y ≠ 0) X = some u) (k : X = some u → WM G nL μ (pc + 1) lv (vI (x.tmod y) :: st)) : WM G nL μ pc lv (vI y :: vI x :: st) := by
  obtain ⟨p, l, e, R, s, m, args, below, meth, c, Q, D, ad, cT, A, cl, sl⟩ := G
  obtain ⟨hx, hb, hml, hown, hts, hlk, hK, hJ, hAd, hA, hSF, hfr, hlo, hcl, hsl⟩ := C
  intro H locs ls hP hS hl
  obtain ⟨h0, h⟩ := ck_some h
  refine lv_irem hx hb hd (fun q => h0 ((eq32 hy2 r32_0).mp q)) ?_
  rw [a32_rem hx2 hy2]
  exact k h H locs ls hP hS hl
theorem o_lrem (C : CX G dd cc nL own) {α : Type} {X : Option α} {u : α} {x y : Int} (hx2 : r64 x) (hy2 : r64 y) (hd : decode cc pc = .ok (.lrem, 1)) (h : ck (y ≠ 0) X = some u) (k : X = some u → WM G nL μ (pc + 1) lv (vJ (x.tmod y) :: st)) : WM G nL μ pc lv (vJ y :: vJ x :: st) := by
  obtain ⟨p, l, e, R, s, m, args, below, meth, c, Q, D, ad, cT, A, cl, sl⟩ := G
  obtain ⟨hx, hb, hml, hown, hts, hlk, hK, hJ, hAd, hA, hSF, hfr, hlo, hcl, hsl⟩ := C
  intro H locs ls hP hS hl
  obtain ⟨h0, h⟩ := ck_some h
  refine lv_lrem hx hb hd (fun q => h0 ((eq64 hy2 (r32_r64 r32_0)).mp q)) ?_
  rw [a64_rem hx2 hy2]
  exact k h H locs ls hP hS hl
theorem o_iand (C : CX G dd cc nL own) {x y : Int} (hd : decode cc pc = .ok (.iand, 1)) (k : WM G nL μ (pc + 1) lv (vI (gand x y) :: st)) : WM G nL μ pc lv (vI y :: vI x :: st) := by
  obtain ⟨p, l, e, R, s, m, args, below, meth, c, Q, D, ad, cT, A, cl, sl⟩ := G
  obtain ⟨hx, hb, hml, hown, hts, hlk, hK, hJ, hAd, hA, hSF, hfr, hlo, hcl, hsl⟩ := C
  intro H locs ls hP hS hl
  refine lv_iand hx hb hd ?_
  have k := k H locs ls hP hS hl
  unfold gand vI at k
  rw [Int32.ofInt_toInt] at k
  exact k
theorem o_ior (C : CX G dd cc nL own) {x y : Int} (hd : decode cc pc = .ok (.ior, 1)) (k : WM G nL μ (pc + 1) lv (vI (gor x y) :: st)) : WM G nL μ pc lv (vI y :: vI x :: st) := by
  obtain ⟨p, l, e, R, s, m, args, below, meth, c, Q, D, ad, cT, A, cl, sl⟩ := G
  obtain ⟨hx, hb, hml, hown, hts, hlk, hK, hJ, hAd, hA, hSF, hfr, hlo, hcl, hsl⟩ := C
  intro H locs ls hP hS hl
  refine lv_ior hx hb hd ?_
  have k := k H locs ls hP hS hl
  unfold gor vI at k
  rw [Int32.ofInt_toInt] at k
  exact k
theorem o_ixor (C : CX G dd cc nL own) {x y : Int} (hd : decode cc pc = .ok (.ixor, 1)) (k : WM G nL μ (pc + 1) lv (vI (gxor x y) :: st)) : WM G nL μ pc lv (vI y :: vI x :: st) := by
  obtain ⟨p, l, e, R, s, m, args, below, meth, c, Q, D, ad, cT, A, cl, sl⟩ := G
  obtain ⟨hx, hb, hml, hown, hts, hlk, hK, hJ, hAd, hA, hSF, hfr, hlo, hcl, hsl⟩ := C
  intro H locs ls hP hS hl
  refine lv_ixor hx hb hd ?_
  have k := k H locs ls hP hS hl
  unfold gxor vI at k
  rw [Int32.ofInt_toInt] at k
  exact k
theorem o_ishl (C : CX G dd cc nL own) {x y : Int} (hd : decode cc pc = .ok (.ishl, 1)) (k : WM G nL μ (pc + 1) lv (vI (gshl x y) :: st)) : WM G nL μ pc lv (vI y :: vI x :: st) := by
  obtain ⟨p, l, e, R, s, m, args, below, meth, c, Q, D, ad, cT, A, cl, sl⟩ := G
  obtain ⟨hx, hb, hml, hown, hts, hlk, hK, hJ, hAd, hA, hSF, hfr, hlo, hcl, hsl⟩ := C
  intro H locs ls hP hS hl
  refine lv_ishl hx hb hd ?_
  have k := k H locs ls hP hS hl
  unfold gshl vI at k
  rw [Int32.ofInt_toInt] at k
  exact k
theorem o_ishr (C : CX G dd cc nL own) {x y : Int} (hd : decode cc pc = .ok (.ishr, 1)) (k : WM G nL μ (pc + 1) lv (vI (gshr x y) :: st)) : WM G nL μ pc lv (vI y :: vI x :: st) := by
  obtain ⟨p, l, e, R, s, m, args, below, meth, c, Q, D, ad, cT, A, cl, sl⟩ := G
  obtain ⟨hx, hb, hml, hown, hts, hlk, hK, hJ, hAd, hA, hSF, hfr, hlo, hcl, hsl⟩ := C
  intro H locs ls hP hS hl
  refine lv_ishr hx hb hd ?_
  have k := k H locs ls hP hS hl
  unfold gshr vI at k
  rw [Int32.ofInt_toInt] at k
  exact k
theorem o_iushr (C : CX G dd cc nL own) {x y : Int} (hd : decode cc pc = .ok (.iushr, 1)) (k : WM G nL μ (pc + 1) lv (vI (gushr x y) :: st)) : WM G nL μ pc lv (vI y :: vI x :: st) := by
  obtain ⟨p, l, e, R, s, m, args, below, meth, c, Q, D, ad, cT, A, cl, sl⟩ := G
  obtain ⟨hx, hb, hml, hown, hts, hlk, hK, hJ, hAd, hA, hSF, hfr, hlo, hcl, hsl⟩ := C
  intro H locs ls hP hS hl
  exact lv_iushr hx hb hd (by unfold gushr; rw [Int32.ofInt_toInt]) (k H locs ls hP hS hl)
theorem o_lxor (C : CX G dd cc nL own) {x y : Int} (hd : decode cc pc = .ok (.lxor, 1)) (k : WM G nL μ (pc + 1) lv (vJ (glxor x y) :: st)) : WM G nL μ pc lv (vJ y :: vJ x :: st) := by
  obtain ⟨p, l, e, R, s, m, args, below, meth, c, Q, D, ad, cT, A, cl, sl⟩ := G
  obtain ⟨hx, hb, hml, hown, hts, hlk, hK, hJ, hAd, hA, hSF, hfr, hlo, hcl, hsl⟩ := C
  intro H locs ls hP hS hl
  refine lv_lxor hx hb hd ?_
  have k := k H locs ls hP hS hl
  unfold glxor vJ at k
  rw [Int64.ofInt_toInt] at k
  exact k
theorem o_i2l (C : CX G dd cc nL own) {x : Int} (hx2 : r32 x) (hd : decode cc pc = .ok (.i2l, 1)) (k : WM G nL μ (pc + 1) lv (vJ x :: st)) : WM G nL μ pc lv (vI x :: st) := by
  obtain ⟨p, l, e, R, s, m, args, below, meth, c, Q, D, ad, cT, A, cl, sl⟩ := G
  obtain ⟨hx, hb, hml, hown, hts, hlk, hK, hJ, hAd, hA, hSF, hfr, hlo, hcl, hsl⟩ := C
  intro H locs ls hP hS hl
  exact lv_i2l hx hb hd (Int64.toInt_inj.mp (by rw [Int32.toInt_toInt64, ti32 hx2, ti64 (r32_r64 hx2)])) (k H locs ls hP hS hl)
theorem o_l2i (C : CX G dd cc nL own) {x : Int} (hd : decode cc pc = .ok (.l2i, 1)) (k : WM G nL μ (pc + 1) lv (vI (w32 x) :: st)) : WM G nL μ pc lv (vJ x :: st) := by
  obtain ⟨p, l, e, R, s, m, args, below, meth, c, Q, D, ad, cT, A, cl, sl⟩ := G
  obtain ⟨hx, hb, hml, hown, hts, hlk, hK, hJ, hAd, hA, hSF, hfr, hlo, hcl, hsl⟩ := C
  intro H locs ls hP hS hl
  exact lv_l2i hx hb hd (by rw [Int64.toInt32_ofInt, of_w32]) (k H locs ls hP hS hl)
theorem o_dupi (C : CX G dd cc nL own) {x : Int} (hd : decode cc pc = .ok (.dup, 1)) (k : WM G nL μ (pc + 1) lv (vI x :: vI x :: st)) : WM G nL μ pc lv (vI x :: st) := by
  obtain ⟨p, l, e, R, s, m, args, below, meth, c, Q, D, ad, cT, A, cl, sl⟩ := G
  obtain ⟨hx, hb, hml, hown, hts, hlk, hK, hJ, hAd, hA, hSF, hfr, hlo, hcl, hsl⟩ := C
  intro H locs ls hP hS hl
  exact lv_dup hx hb hd rfl (k H locs ls hP hS hl)
theorem o_dupr (C : CX G dd cc nL own) {x : Nat} (hd : decode cc pc = .ok (.dup, 1)) (k : WM G nL μ (pc + 1) lv (gR G x :: gR G x :: st)) : WM G nL μ pc lv (gR G x :: st) := by
  obtain ⟨p, l, e, R, s, m, args, below, meth, c, Q, D, ad, cT, A, cl, sl⟩ := G
  obtain ⟨hx, hb, hml, hown, hts, hlk, hK, hJ, hAd, hA, hSF, hfr, hlo, hcl, hsl⟩ := C
  intro H locs ls hP hS hl
  exact lv_dup hx hb hd rfl (k H locs ls hP hS hl)
theorem o_dup2ri (C : CX G dd cc nL own) {x : Int} {r : Nat} (hd : decode cc pc = .ok (.dup2, 1)) (k : WM G nL μ (pc + 1) lv (vI x :: gR G r :: vI x :: gR G r :: st)) : WM G nL μ pc lv (vI x :: gR G r :: st) := by
  obtain ⟨p, l, e, R, s, m, args, below, meth, c, Q, D, ad, cT, A, cl, sl⟩ := G
  obtain ⟨hx, hb, hml, hown, hts, hlk, hK, hJ, hAd, hA, hSF, hfr, hlo, hcl, hsl⟩ := C
  intro H locs ls hP hS hl
  exact lv_dup2_11 hx hb hd rfl rfl (k H locs ls hP hS hl)
theorem o_dupx1ri (C : CX G dd cc nL own) {x : Int} {r : Nat} (hd : decode cc pc = .ok (.dup_x1, 1)) (k : WM G nL μ (pc + 1) lv (vI x :: gR G r :: vI x :: st)) : WM G nL μ pc lv (vI x :: gR G r :: st) := by
  obtain ⟨p, l, e, R, s, m, args, below, meth, c, Q, D, ad, cT, A, cl, sl⟩ := G
  obtain ⟨hx, hb, hml, hown, hts, hlk, hK, hJ, hAd, hA, hSF, hfr, hlo, hcl, hsl⟩ := C
  intro H locs ls hP hS hl
  exact lv_dup_x1 hx hb hd rfl rfl (k H locs ls hP hS hl)
theorem o_goto (C : CX G dd cc nL own) {off : Int} {tgt : Nat} (hd : decode cc pc = .ok (.goto off, 3)) (ht : (pc : Int) + off = (tgt : Int)) (k : WM G nL μ (tgt) lv (st)) : WM G nL μ pc lv st := by
  obtain ⟨p, l, e, R, s, m, args, below, meth, c, Q, D, ad, cT, A, cl, sl⟩ := G
  obtain ⟨hx, hb, hml, hown, hts, hlk, hK, hJ, hAd, hA, hSF, hfr, hlo, hcl, hsl⟩ := C
  intro H locs ls hP hS hl
  exact lv_goto hx hb hd ht (k H locs ls hP hS hl)
theorem o_icmp_eq (C : CX G dd cc nL own) {α : Type} {X Y : Option α} {u : α} {x y : Int} {off : Int} {tgt : Nat} (hx2 : r32 x) (hy2 : r32 y) (hd : decode cc pc = .ok (.if_icmp .eq off, 3)) (ht : (pc : Int) + off = (tgt : Int)) (h : (if x = y then X else Y) = some u) (kt : x = y → X = some u → WM G nL μ tgt lv st) (kf : ¬ x = y → Y = some u → WM G nL μ (pc + 3) lv st) : WM G nL μ pc lv (vI y :: vI x :: st) := by
  obtain ⟨p, l, e, R, s, m, args, below, meth, c, Q, D, ad, cT, A, cl, sl⟩ := G
  obtain ⟨hx, hb, hml, hown, hts, hlk, hK, hJ, hAd, hA, hSF, hfr, hlo, hcl, hsl⟩ := C
  intro H locs ls hP hS hl
  obtain h := ite_some h
  refine lv_icmp_eq hx hb hd ht (fun q => ?_) (fun q => ?_)
  · have q2 : x = y := (eq32 hx2 hy2).mp q
    exact kt q2 (h.elim (fun w => w.2) (fun w => absurd q2 w.1)) H locs ls hP hS hl
  · have q2 : ¬ x = y := fun z => q ((eq32 hx2 hy2).mpr z)
    exact kf q2 (h.elim (fun w => absurd w.1 q2) (fun w => w.2)) H locs ls hP hS hl
theorem o_if_eq (C : CX G dd cc nL own) {α : Type} {X Y : Option α} {u : α} {x : Int} {off : Int} {tgt : Nat} (hx2 : r32 x) (hd : decode cc pc = .ok (.ifCond .eq off, 3)) (ht : (pc : Int) + off = (tgt : Int)) (h : (if x = 0 then X else Y) = some u) (kt : x = 0 → X = some u → WM G nL μ tgt lv st) (kf : ¬ x = 0 → Y = some u → WM G nL μ (pc + 3) lv st) : WM G nL μ pc lv (vI x :: st) := by
  obtain ⟨p, l, e, R, s, m, args, below, meth, c, Q, D, ad, cT, A, cl, sl⟩ := G
  obtain ⟨hx, hb, hml, hown, hts, hlk, hK, hJ, hAd, hA, hSF, hfr, hlo, hcl, hsl⟩ := C
  intro H locs ls hP hS hl
  obtain h := ite_some h
  refine lv_if_eq hx hb hd ht (fun q => ?_) (fun q => ?_)
  · have q2 : x = 0 := (eq32 hx2 r32_0).mp q
    exact kt q2 (h.elim (fun w => w.2) (fun w => absurd q2 w.1)) H locs ls hP hS hl
  · have q2 : ¬ x = 0 := fun z => q ((eq32 hx2 r32_0).mpr z)
    exact kf q2 (h.elim (fun w => absurd w.1 q2) (fun w => w.2)) H locs ls hP hS hl
theorem o_lcmp_eq (C : CX G dd cc nL own) {α : Type} {X Y : Option α} {u : α} {x y : Int} {off : Int} {tgt : Nat} (hx2 : r64 x) (hy2 : r64 y) (hd1 : decode cc pc = .ok (.lcmp, 1)) (hd : decode cc (pc + 1) = .ok (.ifCond .eq off, 3)) (ht : ((pc + 1 : Nat) : Int) + off = (tgt : Int)) (h : (if x = y then X else Y) = some u) (kt : x = y → X = some u → WM G nL μ tgt lv st) (kf : ¬ x = y → Y = some u → WM G nL μ (pc + 1 + 3) lv st) : WM G nL μ pc lv (vJ y :: vJ x :: st) := by
  obtain ⟨p, l, e, R, s, m, args, below, meth, c, Q, D, ad, cT, A, cl, sl⟩ := G
  obtain ⟨hx, hb, hml, hown, hts, hlk, hK, hJ, hAd, hA, hSF, hfr, hlo, hcl, hsl⟩ := C
  intro H locs ls hP hS hl
  obtain h := ite_some h
  refine W.lcmp hx hb hd1 ?_
  refine lv_if_eq hx hb hd ht (fun q => ?_) (fun q => ?_)
  · have q2 : x = y := (eq64 hx2 hy2).mp ((lg_cmp_eq _ _).mp q)
    exact kt q2 (h.elim (fun w => w.2) (fun w => absurd q2 w.1)) H locs ls hP hS hl
  · have q2 : ¬ x = y := fun z => q ((lg_cmp_eq _ _).mpr ((eq64 hx2 hy2).mpr z))
    exact kf q2 (h.elim (fun w => absurd w.1 q2) (fun w => w.2)) H locs ls hP hS hl
theorem o_icmp_ne (C : CX G dd cc nL own) {α : Type} {X Y : Option α} {u : α} {x y : Int} {off : Int} {tgt : Nat} (hx2 : r32 x) (hy2 : r32 y) (hd : decode cc pc = .ok (.if_icmp .ne off, 3)) (ht : (pc : Int) + off = (tgt : Int)) (h : (if x = y then X else Y) = some u) (kt : ¬ x = y → Y = some u → WM G nL μ tgt lv st) (kf : x = y → X = some u → WM G nL μ (pc + 3) lv st) : WM G nL μ pc lv (vI y :: vI x :: st) := by
  obtain ⟨p, l, e, R, s, m, args, below, meth, c, Q, D, ad, cT, A, cl, sl⟩ := G
  obtain ⟨hx, hb, hml, hown, hts, hlk, hK, hJ, hAd, hA, hSF, hfr, hlo, hcl, hsl⟩ := C
  intro H locs ls hP hS hl
  obtain h := ite_some h
  refine lv_icmp_ne hx hb hd ht (fun q => ?_) (fun q => ?_)
  · have q2 : ¬ x = y := fun z => q ((eq32 hx2 hy2).mpr z)
    exact kt q2 (h.elim (fun w => absurd w.1 q2) (fun w => w.2)) H locs ls hP hS hl
  · have q2 : x = y := (eq32 hx2 hy2).mp q
    exact kf q2 (h.elim (fun w => w.2) (fun w => absurd q2 w.1)) H locs ls hP hS hl
theorem o_if_ne (C : CX G dd cc nL own) {α : Type} {X Y : Option α} {u : α} {x : Int} {off : Int} {tgt : Nat} (hx2 : r32 x) (hd : decode cc pc = .ok (.ifCond .ne off, 3)) (ht : (pc : Int) + off = (tgt : Int)) (h : (if x = 0 then X else Y) = some u) (kt : ¬ x = 0 → Y = some u → WM G nL μ tgt lv st) (kf : x = 0 → X = some u → WM G nL μ (pc + 3) lv st) : WM G nL μ pc lv (vI x :: st) := by
  obtain ⟨p, l, e, R, s, m, args, below, meth, c, Q, D, ad, cT, A, cl, sl⟩ := G
  obtain ⟨hx, hb, hml, hown, hts, hlk, hK, hJ, hAd, hA, hSF, hfr, hlo, hcl, hsl⟩ := C
  intro H locs ls hP hS hl
  obtain h := ite_some h
  refine lv_if_ne hx hb hd ht (fun q => ?_) (fun q => ?_)
  · have q2 : ¬ x = 0 := fun z => q ((eq32 hx2 r32_0).mpr z)
    exact kt q2 (h.elim (fun w => absurd w.1 q2) (fun w => w.2)) H locs ls hP hS hl
  · have q2 : x = 0 := (eq32 hx2 r32_0).mp q
    exact kf q2 (h.elim (fun w => w.2) (fun w => absurd q2 w.1)) H locs ls hP hS hl
theorem o_lcmp_ne (C : CX G dd cc nL own) {α : Type} {X Y : Option α} {u : α} {x y : Int} {off : Int} {tgt : Nat} (hx2 : r64 x) (hy2 : r64 y) (hd1 : decode cc pc = .ok (.lcmp, 1)) (hd : decode cc (pc + 1) = .ok (.ifCond .ne off, 3)) (ht : ((pc + 1 : Nat) : Int) + off = (tgt : Int)) (h : (if x = y then X else Y) = some u) (kt : ¬ x = y → Y = some u → WM G nL μ tgt lv st) (kf : x = y → X = some u → WM G nL μ (pc + 1 + 3) lv st) : WM G nL μ pc lv (vJ y :: vJ x :: st) := by
  obtain ⟨p, l, e, R, s, m, args, below, meth, c, Q, D, ad, cT, A, cl, sl⟩ := G
  obtain ⟨hx, hb, hml, hown, hts, hlk, hK, hJ, hAd, hA, hSF, hfr, hlo, hcl, hsl⟩ := C
  intro H locs ls hP hS hl
  obtain h := ite_some h
  refine W.lcmp hx hb hd1 ?_
  refine lv_if_ne hx hb hd ht (fun q => ?_) (fun q => ?_)
  · have q2 : ¬ x = y := fun z => q ((lg_cmp_eq _ _).mpr ((eq64 hx2 hy2).mpr z))
    exact kt q2 (h.elim (fun w => absurd w.1 q2) (fun w => w.2)) H locs ls hP hS hl
  · have q2 : x = y := (eq64 hx2 hy2).mp ((lg_cmp_eq _ _).mp q)
    exact kf q2 (h.elim (fun w => w.2) (fun w => absurd q2 w.1)) H locs ls hP hS hl
theorem o_icmp_lt (C : CX G dd cc nL own) {α : Type} {X Y : Option α} {u : α} {x y : Int} {off : Int} {tgt : Nat} (hx2 : r32 x) (hy2 : r32 y) (hd : decode cc pc = .ok (.if_icmp .lt off, 3)) (ht : (pc : Int) + off = (tgt : Int)) (h : (if x < y then X else Y) = some u) (kt : x < y → X = some u → WM G nL μ tgt lv st) (kf : ¬ x < y → Y = some u → WM G nL μ (pc + 3) lv st) : WM G nL μ pc lv (vI y :: vI x :: st) := by
  obtain ⟨p, l, e, R, s, m, args, below, meth, c, Q, D, ad, cT, A, cl, sl⟩ := G
  obtain ⟨hx, hb, hml, hown, hts, hlk, hK, hJ, hAd, hA, hSF, hfr, hlo, hcl, hsl⟩ := C
  intro H locs ls hP hS hl
  obtain h := ite_some h
  refine lv_icmp_lt hx hb hd ht (fun q => ?_) (fun q => ?_)
  · have q2 : x < y := (lt32 hx2 hy2).mp q
    exact kt q2 (h.elim (fun w => w.2) (fun w => absurd q2 w.1)) H locs ls hP hS hl
  · have q2 : ¬ x < y := fun z => q ((lt32 hx2 hy2).mpr z)
    exact kf q2 (h.elim (fun w => absurd w.1 q2) (fun w => w.2)) H locs ls hP hS hl
theorem o_if_lt (C : CX G dd cc nL own) {α : Type} {X Y : Option α} {u : α} {x : Int} {off : Int} {tgt : Nat} (hx2 : r32 x) (hd : decode cc pc = .ok (.ifCond .lt off, 3)) (ht : (pc : Int) + off = (tgt : Int)) (h : (if x < 0 then X else Y) = some u) (kt : x < 0 → X = some u → WM G nL μ tgt lv st) (kf : ¬ x < 0 → Y = some u → WM G nL μ (pc + 3) lv st) : WM G nL μ pc lv (vI x :: st) := by
  obtain ⟨p, l, e, R, s, m, args, below, meth, c, Q, D, ad, cT, A, cl, sl⟩ := G
  obtain ⟨hx, hb, hml, hown, hts, hlk, hK, hJ, hAd, hA, hSF, hfr, hlo, hcl, hsl⟩ := C
  intro H locs ls hP hS hl
  obtain h := ite_some h
  refine lv_if_lt hx hb hd ht (fun q => ?_) (fun q => ?_)
  · have q2 : x < 0 := (lt32 hx2 r32_0).mp q
    exact kt q2 (h.elim (fun w => w.2) (fun w => absurd q2 w.1)) H locs ls hP hS hl
  · have q2 : ¬ x < 0 := fun z => q ((lt32 hx2 r32_0).mpr z)
    exact kf q2 (h.elim (fun w => absurd w.1 q2) (fun w => w.2)) H locs ls hP hS hl
theorem o_lcmp_lt (C : CX G dd cc nL own) {α : Type} {X Y : Option α} {u : α} {x y : Int} {off : Int} {tgt : Nat} (hx2 : r64 x) (hy2 : r64 y) (hd1 : decode cc pc = .ok (.lcmp, 1)) (hd : decode cc (pc + 1) = .ok (.ifCond .lt off, 3)) (ht : ((pc + 1 : Nat) : Int) + off = (tgt : Int)) (h : (if x < y then X else Y) = some u) (kt : x < y → X = some u → WM G nL μ tgt lv st) (kf : ¬ x < y → Y = some u → WM G nL μ (pc + 1 + 3) lv st) : WM G nL μ pc lv (vJ y :: vJ x :: st) := by
  obtain ⟨p, l, e, R, s, m, args, below, meth, c, Q, D, ad, cT, A, cl, sl⟩ := G
  obtain ⟨hx, hb, hml, hown, hts, hlk, hK, hJ, hAd, hA, hSF, hfr, hlo, hcl, hsl⟩ := C
  intro H locs ls hP hS hl
  obtain h := ite_some h
  refine W.lcmp hx hb hd1 ?_
  refine lv_if_lt hx hb hd ht (fun q => ?_) (fun q => ?_)
  · have q2 : x < y := (lt64 hx2 hy2).mp ((lg_cmp_lt _ _).mp q)
    exact kt q2 (h.elim (fun w => w.2) (fun w => absurd q2 w.1)) H locs ls hP hS hl
  · have q2 : ¬ x < y := fun z => q ((lg_cmp_lt _ _).mpr ((lt64 hx2 hy2).mpr z))
    exact kf q2 (h.elim (fun w => absurd w.1 q2) (fun w => w.2)) H locs ls hP hS hl
theorem o_icmp_ge (C : CX G dd cc nL own) {α : Type} {X Y : Option α} {u : α} {x y : Int} {off : Int} {tgt : Nat} (hx2 : r32 x) (hy2 : r32 y) (hd : decode cc pc = .ok (.if_icmp .ge off, 3)) (ht : (pc : Int) + off = (tgt : Int)) (h : (if x < y then X else Y) = some u) (kt : ¬ x < y → Y = some u → WM G nL μ tgt lv st) (kf : x < y → X = some u → WM G nL μ (pc + 3) lv st) : WM G nL μ pc lv (vI y :: vI x :: st) := by
  obtain ⟨p, l, e, R, s, m, args, below, meth, c, Q, D, ad, cT, A, cl, sl⟩ := G
  obtain ⟨hx, hb, hml, hown, hts, hlk, hK, hJ, hAd, hA, hSF, hfr, hlo, hcl, hsl⟩ := C
  intro H locs ls hP hS hl
  obtain h := ite_some h
  refine lv_icmp_ge hx hb hd ht (fun q => ?_) (fun q => ?_)
  · have q2 : ¬ x < y := fun z => Int32.not_lt.mpr q ((lt32 hx2 hy2).mpr z)
    exact kt q2 (h.elim (fun w => absurd w.1 q2) (fun w => w.2)) H locs ls hP hS hl
  · have q2 : x < y := (lt32 hx2 hy2).mp (Int32.not_le.mp q)
    exact kf q2 (h.elim (fun w => w.2) (fun w => absurd q2 w.1)) H locs ls hP hS hl
theorem o_if_ge (C : CX G dd cc nL own) {α : Type} {X Y : Option α} {u : α} {x : Int} {off : Int} {tgt : Nat} (hx2 : r32 x) (hd : decode cc pc = .ok (.ifCond .ge off, 3)) (ht : (pc : Int) + off = (tgt : Int)) (h : (if x < 0 then X else Y) = some u) (kt : ¬ x < 0 → Y = some u → WM G nL μ tgt lv st) (kf : x < 0 → X = some u → WM G nL μ (pc + 3) lv st) : WM G nL μ pc lv (vI x :: st) := by
  obtain ⟨p, l, e, R, s, m, args, below, meth, c, Q, D, ad, cT, A, cl, sl⟩ := G
  obtain ⟨hx, hb, hml, hown, hts, hlk, hK, hJ, hAd, hA, hSF, hfr, hlo, hcl, hsl⟩ := C
  intro H locs ls hP hS hl
  obtain h := ite_some h
  refine lv_if_ge hx hb hd ht (fun q => ?_) (fun q => ?_)
  · have q2 : ¬ x < 0 := fun z => Int32.not_lt.mpr q ((lt32 hx2 r32_0).mpr z)
    exact kt q2 (h.elim (fun w => absurd w.1 q2) (fun w => w.2)) H locs ls hP hS hl
  · have q2 : x < 0 := (lt32 hx2 r32_0).mp (Int32.not_le.mp q)
    exact kf q2 (h.elim (fun w => w.2) (fun w => absurd q2 w.1)) H locs ls hP hS hl
theorem o_lcmp_ge (C : CX G dd cc nL own) {α : Type} {X Y : Option α} {u : α} {x y : Int} {off : Int} {tgt : Nat} (hx2 : r64 x) (hy2 : r64 y) (hd1 : decode cc pc = .ok (.lcmp, 1)) (hd : decode cc (pc + 1) = .ok (.ifCond .ge off, 3)) (ht : ((pc + 1 : Nat) : Int) + off = (tgt : Int)) (h : (if x < y then X else Y) = some u) (kt : ¬ x < y → Y = some u → WM G nL μ tgt lv st) (kf : x < y → X = some u → WM G nL μ (pc + 1 + 3) lv st) : WM G nL μ pc lv (vJ y :: vJ x :: st) := by
  obtain ⟨p, l, e, R, s, m, args, below, meth, c, Q, D, ad, cT, A, cl, sl⟩ := G
  obtain ⟨hx, hb, hml, hown, hts, hlk, hK, hJ, hAd, hA, hSF, hfr, hlo, hcl, hsl⟩ := C
  intro H locs ls hP hS hl
  obtain h := ite_some h
  refine W.lcmp hx hb hd1 ?_
  refine lv_if_ge hx hb hd ht (fun q => ?_) (fun q => ?_)
  · have q2 : ¬ x < y := fun z => Int64.not_lt.mpr ((lg_cmp_ge _ _).mp q) ((lt64 hx2 hy2).mpr z)
    exact kt q2 (h.elim (fun w => absurd w.1 q2) (fun w => w.2)) H locs ls hP hS hl
  · have q2 : x < y := (lt64 hx2 hy2).mp (Int64.not_le.mp (fun z => q ((lg_cmp_ge _ _).mpr z)))
    exact kf q2 (h.elim (fun w => w.2) (fun w => absurd q2 w.1)) H locs ls hP hS hl
theorem o_icmp_gt (C : CX G dd cc nL own) {α : Type} {X Y : Option α} {u : α} {x y : Int} {off : Int} {tgt : Nat} (hx2 : r32 x) (hy2 : r32 y) (hd : decode cc pc = .ok (.if_icmp .gt off, 3)) (ht : (pc : Int) + off = (tgt : Int)) (h : (if y < x then X else Y) = some u) (kt : y < x → X = some u → WM G nL μ tgt lv st) (kf : ¬ y < x → Y = some u → WM G nL μ (pc + 3) lv st) : WM G nL μ pc lv (vI y :: vI x :: st) := by
  obtain ⟨p, l, e, R, s, m, args, below, meth, c, Q, D, ad, cT, A, cl, sl⟩ := G
  obtain ⟨hx, hb, hml, hown, hts, hlk, hK, hJ, hAd, hA, hSF, hfr, hlo, hcl, hsl⟩ := C
  intro H locs ls hP hS hl
  obtain h := ite_some h
  refine lv_icmp_gt hx hb hd ht (fun q => ?_) (fun q => ?_)
  · have q2 : y < x := (lt32 hy2 hx2).mp q
    exact kt q2 (h.elim (fun w => w.2) (fun w => absurd q2 w.1)) H locs ls hP hS hl
  · have q2 : ¬ y < x := fun z => q ((lt32 hy2 hx2).mpr z)
    exact kf q2 (h.elim (fun w => absurd w.1 q2) (fun w => w.2)) H locs ls hP hS hl
theorem o_if_gt (C : CX G dd cc nL own) {α : Type} {X Y : Option α} {u : α} {x : Int} {off : Int} {tgt : Nat} (hx2 : r32 x) (hd : decode cc pc = .ok (.ifCond .gt off, 3)) (ht : (pc : Int) + off = (tgt : Int)) (h : (if 0 < x then X else Y) = some u) (kt : 0 < x → X = some u → WM G nL μ tgt lv st) (kf : ¬ 0 < x → Y = some u → WM G nL μ (pc + 3) lv st) : WM G nL μ pc lv (vI x :: st) := by
  obtain ⟨p, l, e, R, s, m, args, below, meth, c, Q, D, ad, cT, A, cl, sl⟩ := G
  obtain ⟨hx, hb, hml, hown, hts, hlk, hK, hJ, hAd, hA, hSF, hfr, hlo, hcl, hsl⟩ := C
  intro H locs ls hP hS hl
  obtain h := ite_some h
  refine lv_if_gt hx hb hd ht (fun q => ?_) (fun q => ?_)
  · have q2 : 0 < x := (lt32 r32_0 hx2).mp q
    exact kt q2 (h.elim (fun w => w.2) (fun w => absurd q2 w.1)) H locs ls hP hS hl
  · have q2 : ¬ 0 < x := fun z => q ((lt32 r32_0 hx2).mpr z)
    exact kf q2 (h.elim (fun w => absurd w.1 q2) (fun w => w.2)) H locs ls hP hS hl
theorem o_lcmp_gt (C : CX G dd cc nL own) {α : Type} {X Y : Option α} {u : α} {x y : Int} {off : Int} {tgt : Nat} (hx2 : r64 x) (hy2 : r64 y) (hd1 : decode cc pc = .ok (.lcmp, 1)) (hd : decode cc (pc + 1) = .ok (.ifCond .gt off, 3)) (ht : ((pc + 1 : Nat) : Int) + off = (tgt : Int)) (h : (if y < x then X else Y) = some u) (kt : y < x → X = some u → WM G nL μ tgt lv st) (kf : ¬ y < x → Y = some u → WM G nL μ (pc + 1 + 3) lv st) : WM G nL μ pc lv (vJ y :: vJ x :: st) := by
  obtain ⟨p, l, e, R, s, m, args, below, meth, c, Q, D, ad, cT, A, cl, sl⟩ := G
  obtain ⟨hx, hb, hml, hown, hts, hlk, hK, hJ, hAd, hA, hSF, hfr, hlo, hcl, hsl⟩ := C
  intro H locs ls hP hS hl
  obtain h := ite_some h
  refine W.lcmp hx hb hd1 ?_
  refine lv_if_gt hx hb hd ht (fun q => ?_) (fun q => ?_)
  · have q2 : y < x := (lt64 hy2 hx2).mp ((lg_cmp_gt _ _).mp q)
    exact kt q2 (h.elim (fun w => w.2) (fun w => absurd q2 w.1)) H locs ls hP hS hl
  · have q2 : ¬ y < x := fun z => q ((lg_cmp_gt _ _).mpr ((lt64 hy2 hx2).mpr z))
    exact kf q2 (h.elim (fun w => absurd w.1 q2) (fun w => w.2)) H locs ls hP hS hl
theorem o_icmp_le (C : CX G dd cc nL own) {α : Type} {X Y : Option α} {u : α} {x y : Int} {off : Int} {tgt : Nat} (hx2 : r32 x) (hy2 : r32 y) (hd : decode cc pc = .ok (.if_icmp .le off, 3)) (ht : (pc : Int) + off = (tgt : Int)) (h : (if y < x then X else Y) = some u) (kt : ¬ y < x → Y = some u → WM G nL μ tgt lv st) (kf : y < x → X = some u → WM G nL μ (pc + 3) lv st) : WM G nL μ pc lv (vI y :: vI x :: st) := by
  obtain ⟨p, l, e, R, s, m, args, below, meth, c, Q, D, ad, cT, A, cl, sl⟩ := G
  obtain ⟨hx, hb, hml, hown, hts, hlk, hK, hJ, hAd, hA, hSF, hfr, hlo, hcl, hsl⟩ := C
  intro H locs ls hP hS hl
  obtain h := ite_some h
  refine lv_icmp_le hx hb hd ht (fun q => ?_) (fun q => ?_)
  · have q2 : ¬ y < x := fun z => Int32.not_lt.mpr q ((lt32 hy2 hx2).mpr z)
    exact kt q2 (h.elim (fun w => absurd w.1 q2) (fun w => w.2)) H locs ls hP hS hl
  · have q2 : y < x := (lt32 hy2 hx2).mp (Int32.not_le.mp q)
    exact kf q2 (h.elim (fun w => w.2) (fun w => absurd q2 w.1)) H locs ls hP hS hl
theorem o_if_le (C : CX G dd cc nL own) {α : Type} {X Y : Option α} {u : α} {x : Int} {off : Int} {tgt : Nat} (hx2 : r32 x) (hd : decode cc pc = .ok (.ifCond .le off, 3)) (ht : (pc : Int) + off = (tgt : Int)) (h : (if 0 < x then X else Y) = some u) (kt : ¬ 0 < x → Y = some u → WM G nL μ tgt lv st) (kf : 0 < x → X = some u → WM G nL μ (pc + 3) lv st) : WM G nL μ pc lv (vI x :: st) := by
  obtain ⟨p, l, e, R, s, m, args, below, meth, c, Q, D, ad, cT, A, cl, sl⟩ := G
  obtain ⟨hx, hb, hml, hown, hts, hlk, hK, hJ, hAd, hA, hSF, hfr, hlo, hcl, hsl⟩ := C
  intro H locs ls hP hS hl
  obtain h := ite_some h
  refine lv_if_le hx hb hd ht (fun q => ?_) (fun q => ?_)
  · have q2 : ¬ 0 < x := fun z => Int32.not_lt.mpr q ((lt32 r32_0 hx2).mpr z)
    exact kt q2 (h.elim (fun w => absurd w.1 q2) (fun w => w.2)) H locs ls hP hS hl
  · have q2 : 0 < x := (lt32 r32_0 hx2).mp (Int32.not_le.mp q)
    exact kf q2 (h.elim (fun w => w.2) (fun w => absurd q2 w.1)) H locs ls hP hS hl
theorem o_lcmp_le (C : CX G dd cc nL own) {α : Type} {X Y : Option α} {u : α} {x y : Int} {off : Int} {tgt : Nat} (hx2 : r64 x) (hy2 : r64 y) (hd1 : decode cc pc = .ok (.lcmp, 1)) (hd : decode cc (pc + 1) = .ok (.ifCond .le off, 3)) (ht : ((pc + 1 : Nat) : Int) + off = (tgt : Int)) (h : (if y < x then X else Y) = some u) (kt : ¬ y < x → Y = some u → WM G nL μ tgt lv st) (kf : y < x → X = some u → WM G nL μ (pc + 1 + 3) lv st) : WM G nL μ pc lv (vJ y :: vJ x :: st) := by
  obtain ⟨p, l, e, R, s, m, args, below, meth, c, Q, D, ad, cT, A, cl, sl⟩ := G
  obtain ⟨hx, hb, hml, hown, hts, hlk, hK, hJ, hAd, hA, hSF, hfr, hlo, hcl, hsl⟩ := C
  intro H locs ls hP hS hl
  obtain h := ite_some h
  refine W.lcmp hx hb hd1 ?_
  refine lv_if_le hx hb hd ht (fun q => ?_) (fun q => ?_)
  · have q2 : ¬ y < x := fun z => Int64.not_lt.mpr ((lg_cmp_le _ _).mp q) ((lt64 hy2 hx2).mpr z)
    exact kt q2 (h.elim (fun w => absurd w.1 q2) (fun w => w.2)) H locs ls hP hS hl
  · have q2 : y < x := (lt64 hy2 hx2).mp (Int64.not_le.mp (fun z => q ((lg_cmp_le _ _).mpr z)))
    exact kf q2 (h.elim (fun w => w.2) (fun w => absurd q2 w.1)) H locs ls hP hS hl
theorem o_iald (C : CX G dd cc nL own) {α : Type} {X : Option α} {u : α} {k0 n : Nat} {i : Int} {ni : Int} (hk : gKT[k0]? = some (0, n, 0, [])) (hni : (n : Int) = ni) (hi : r32 i) (hd : decode cc pc = .ok (.iaload, 1)) (h : ck (0 ≤ i ∧ i < ni) X = some u) (k : X = some u → WM G nL μ (pc + 1) lv (vI (μ.1 k0 i) :: st)) : WM G nL μ pc lv (vI i :: gR G k0 :: st) := by
  obtain ⟨p, l, e, R, s, m, args, below, meth, c, Q, D, ad, cT, A, cl, sl⟩ := G
  obtain ⟨hx, hb, hml, hown, hts, hlk, hK, hJ, hAd, hA, hSF, hfr, hlo, hcl, hsl⟩ := C
  intro H locs ls hP hS hl
  subst hni
  obtain ⟨h0, h⟩ := ck_some h
  refine va_iald hx hb hK hP k0 0 (gWs_at ad cT μ hk) rfl (vp_in_of_ck hi h0) hd ?_
  rw [g_clamp hi, ofInt_toNat h0.1]
  exact k h H locs ls hP hS hl
theorem o_zald (C : CX G dd cc nL own) {α : Type} {X : Option α} {u : α} {k0 n : Nat} {i : Int} {ni : Int} (hk : gKT[k0]? = some (1, n, 0, [])) (hni : (n : Int) = ni) (hi : r32 i) (hd : decode cc pc = .ok (.baload, 1)) (h : ck (0 ≤ i ∧ i < ni) X = some u) (k : X = some u → WM G nL μ (pc + 1) lv (vI (μ.1 k0 i) :: st)) : WM G nL μ pc lv (vI i :: gR G k0 :: st) := by
  obtain ⟨p, l, e, R, s, m, args, below, meth, c, Q, D, ad, cT, A, cl, sl⟩ := G
  obtain ⟨hx, hb, hml, hown, hts, hlk, hK, hJ, hAd, hA, hSF, hfr, hlo, hcl, hsl⟩ := C
  intro H locs ls hP hS hl
  subst hni
  obtain ⟨h0, h⟩ := ck_some h
  refine va_zald hx hb hK hP k0 1 (gWs_at ad cT μ hk) rfl (vp_in_of_ck hi h0) hd ?_
  rw [g_clamp hi, ofInt_toNat h0.1]
  exact k h H locs ls hP hS hl
theorem o_lald (C : CX G dd cc nL own) {α : Type} {X : Option α} {u : α} {k0 n : Nat} {i : Int} {ni : Int} (hk : gKT[k0]? = some (2, n, 0, [])) (hni : (n : Int) = ni) (hi : r32 i) (hd : decode cc pc = .ok (.laload, 1)) (h : ck (0 ≤ i ∧ i < ni) X = some u) (k : X = some u → WM G nL μ (pc + 1) lv (vJ (μ.1 k0 i) :: st)) : WM G nL μ pc lv (vI i :: gR G k0 :: st) := by
  obtain ⟨p, l, e, R, s, m, args, below, meth, c, Q, D, ad, cT, A, cl, sl⟩ := G
  obtain ⟨hx, hb, hml, hown, hts, hlk, hK, hJ, hAd, hA, hSF, hfr, hlo, hcl, hsl⟩ := C
  intro H locs ls hP hS hl
  subst hni
  obtain ⟨h0, h⟩ := ck_some h
  refine va_lald hx hb hK hP k0 2 (gWs_at ad cT μ hk) rfl (vp_in_of_ck hi h0) hd ?_
  rw [g_clamp hi, ofInt_toNat h0.1]
  exact k h H locs ls hP hS hl
theorem o_aald3 (C : CX G dd cc nL own) {α : Type} {X : Option α} {u : α} {k0 n b : Nat} {i : Int} {ni : Int} (hk : gKT[k0]? = some (3, n, b, [])) (hni : (n : Int) = ni) (hi : r32 i) (hd : decode cc pc = .ok (.aaload, 1)) (h : ck (0 ≤ i ∧ i < ni) X = some u) (k : (0 ≤ i ∧ i < ni) → X = some u → WM G nL μ (pc + 1) lv (gR G (b + i.toNat) :: st)) : WM G nL μ pc lv (vI i :: gR G k0 :: st) := by
  obtain ⟨p, l, e, R, s, m, args, below, meth, c, Q, D, ad, cT, A, cl, sl⟩ := G
  obtain ⟨hx, hb, hml, hown, hts, hlk, hK, hJ, hAd, hA, hSF, hfr, hlo, hcl, hsl⟩ := C
  intro H locs ls hP hS hl
  subst hni
  obtain ⟨h0, h⟩ := ck_some h
  have hin := vp_in_of_ck hi h0
  have hlt : (Int32.ofInt i).toNatClampNeg < n := Nat.not_le.mp fun q => hin (Or.inr q)
  refine W.aald (v := .ref (ad (b + i.toNat))) (ty := .array .int) hx hb (hP k0 _ (gWs_at ad cT μ hk)) ((hK.2 3 _ rfl).1 n (fun j => va_rf (if j < n then some (ad (b + j)) else none))) rfl (fun q => by cases q) (by show ¬ (_ ∨ (arrV _ _ _).slots.size ≤ _); rw [arrV_size]; exact hin) (by show (arrV _ _ _).slots[_]? = _; rw [arrV_read _ _ hlt]; show some (va_rf (if (Int32.ofInt i).toNatClampNeg < n then some (ad (b + (Int32.ofInt i).toNatClampNeg)) else none)) = _; rw [if_pos hlt, g_clamp hi]; rfl) rfl rfl hd ?_
  exact k h0 h H locs ls hP hS hl
theorem o_aald4 (C : CX G dd cc nL own) {α : Type} {X : Option α} {u : α} {k0 n b : Nat} {i : Int} {ni : Int} (hk : gKT[k0]? = some (4, n, b, [])) (hni : (n : Int) = ni) (hi : r32 i) (hd : decode cc pc = .ok (.aaload, 1)) (h : ck (0 ≤ i ∧ i < ni) X = some u) (k : (0 ≤ i ∧ i < ni) → X = some u → WM G nL μ (pc + 1) lv (gR G (b + i.toNat) :: st)) : WM G nL μ pc lv (vI i :: gR G k0 :: st) := by
  obtain ⟨p, l, e, R, s, m, args, below, meth, c, Q, D, ad, cT, A, cl, sl⟩ := G
  obtain ⟨hx, hb, hml, hown, hts, hlk, hK, hJ, hAd, hA, hSF, hfr, hlo, hcl, hsl⟩ := C
  intro H locs ls hP hS hl
  subst hni
  obtain ⟨h0, h⟩ := ck_some h
  have hin := vp_in_of_ck hi h0
  have hlt : (Int32.ofInt i).toNatClampNeg < n := Nat.not_le.mp fun q => hin (Or.inr q)
  refine W.aald (v := .ref (ad (b + i.toNat))) (ty := .array .long) hx hb (hP k0 _ (gWs_at ad cT μ hk)) ((hK.2 4 _ rfl).1 n (fun j => va_rf (if j < n then some (ad (b + j)) else none))) rfl (fun q => by cases q) (by show ¬ (_ ∨ (arrV _ _ _).slots.size ≤ _); rw [arrV_size]; exact hin) (by show (arrV _ _ _).slots[_]? = _; rw [arrV_read _ _ hlt]; show some (va_rf (if (Int32.ofInt i).toNatClampNeg < n then some (ad (b + (Int32.ofInt i).toNatClampNeg)) else none)) = _; rw [if_pos hlt, g_clamp hi]; rfl) rfl rfl hd ?_
  exact k h0 h H locs ls hP hS hl
theorem o_iast (C : CX G dd cc nL own) {α : Type} {f : GM → Option α} {u : α} {k0 n : Nat} {i x : Int} {ni : Int} (hk : gKT[k0]? = some (0, n, 0, [])) (hni : (n : Int) = ni) (hi : r32 i) (hx2 : r32 x) (hμ : gRg μ) (hd : decode cc pc = .ok (.iastore, 1)) (h : ck (0 ≤ i ∧ i < ni) (lm (gA μ k0 i x) f) = some u) (kk : ∀ μ2, gRg μ2 → f μ2 = some u → WM G nL μ2 (pc + 1) lv st) : WM G nL μ pc lv (vI x :: vI i :: gR G k0 :: st) := by
  obtain ⟨p, l, e, R, s, m, args, below, meth, c, Q, D, ad, cT, A, cl, sl⟩ := G
  obtain ⟨hx, hb, hml, hown, hts, hlk, hK, hJ, hAd, hA, hSF, hfr, hlo, hcl, hsl⟩ := C
  intro H locs ls hP hS hl
  subst hni
  obtain ⟨h0, h⟩ := ck_some h
  refine va_iast hx hb hK hP (gD_of hJ hAd) hS k0 0 (gWs_at ad cT μ hk) rfl (vp_in_of_ck hi h0) hd (fun H1 locs1 hP1 hD1 hS1 => ?_)
  rw [gWs_set ad cT μ (gA μ k0 i x) hk (fun k2 h2 => by funext i2; exact if_neg (fun z => h2 z.1)) (fun k2 h2 => rfl) ?_] at hP1
  · exact kk _ (hμ.gA (gRA.of32 _ hx2)) h H1 locs1 ls hP1 hS1 hl
  · refine congrArg (fun z => Sum.inl (cT 0, n, Sum.inl z)) (funext fun j => ?_)
    rw [g_clamp hi]
    by_cases hj : j = i.toNat
    · subst hj
      show (if _ then _ else _) = Int32.ofInt (if _ then _ else _)
      rw [if_pos rfl, if_pos ⟨rfl, ofInt_toNat h0.1⟩]
    · show (if _ then _ else _) = Int32.ofInt (if _ then _ else _)
      rw [if_neg hj, if_neg (fun z => hj (by omega))]
theorem o_last (C : CX G dd cc nL own) {α : Type} {f : GM → Option α} {u : α} {k0 n : Nat} {i x : Int} {ni : Int} (hk : gKT[k0]? = some (2, n, 0, [])) (hni : (n : Int) = ni) (hi : r32 i) (hx2 : r64 x) (hμ : gRg μ) (hd : decode cc pc = .ok (.lastore, 1)) (h : ck (0 ≤ i ∧ i < ni) (lm (gA μ k0 i x) f) = some u) (kk : ∀ μ2, gRg μ2 → f μ2 = some u → WM G nL μ2 (pc + 1) lv st) : WM G nL μ pc lv (vJ x :: vI i :: gR G k0 :: st) := by
  obtain ⟨p, l, e, R, s, m, args, below, meth, c, Q, D, ad, cT, A, cl, sl⟩ := G
  obtain ⟨hx, hb, hml, hown, hts, hlk, hK, hJ, hAd, hA, hSF, hfr, hlo, hcl, hsl⟩ := C
  intro H locs ls hP hS hl
  subst hni
  obtain ⟨h0, h⟩ := ck_some h
  refine va_last hx hb hK hP (gD_of hJ hAd) hS k0 2 (gWs_at ad cT μ hk) rfl (vp_in_of_ck hi h0) hd (fun H1 locs1 hP1 hD1 hS1 => ?_)
  rw [gWs_set ad cT μ (gA μ k0 i x) hk (fun k2 h2 => by funext i2; exact if_neg (fun z => h2 z.1)) (fun k2 h2 => rfl) ?_] at hP1
  · exact kk _ (hμ.gA (gRA.l hk hx2)) h H1 locs1 ls hP1 hS1 hl
  · refine congrArg (fun z => Sum.inl (cT 2, n, (fun w => Sum.inr (Sum.inl w)) z)) (funext fun j => ?_)
    rw [g_clamp hi]
    by_cases hj : j = i.toNat
    · subst hj
      show (if _ then _ else _) = Int64.ofInt (if _ then _ else _)
      rw [if_pos rfl, if_pos ⟨rfl, ofInt_toNat h0.1⟩]
    · show (if _ then _ else _) = Int64.ofInt (if _ then _ else _)
      rw [if_neg hj, if_neg (fun z => hj (by omega))]
theorem o_zast (C : CX G dd cc nL own) {α : Type} {f : GM → Option α} {u : α} {k0 n : Nat} {i x : Int} {ni : Int} (hk : gKT[k0]? = some (1, n, 0, [])) (hni : (n : Int) = ni) (hi : r32 i) (hx2 : r32 x) (hμ : gRg μ) (hd : decode cc pc = .ok (.bastore, 1)) (h : ck (0 ≤ i ∧ i < ni) (lm (gA μ k0 i (x % 2)) f) = some u) (kk : ∀ μ2, gRg μ2 → f μ2 = some u → WM G nL μ2 (pc + 1) lv st) : WM G nL μ pc lv (vI x :: vI i :: gR G k0 :: st) := by
  obtain ⟨p, l, e, R, s, m, args, below, meth, c, Q, D, ad, cT, A, cl, sl⟩ := G
  obtain ⟨hx, hb, hml, hown, hts, hlk, hK, hJ, hAd, hA, hSF, hfr, hlo, hcl, hsl⟩ := C
  intro H locs ls hP hS hl
  subst hni
  obtain ⟨h0, h⟩ := ck_some h
  refine va_zast hx hb hK hP (gD_of hJ hAd) hS k0 1 (gWs_at ad cT μ hk) rfl (vp_in_of_ck hi h0) hd (fun H1 locs1 hP1 hD1 hS1 => ?_)
  rw [gWs_set ad cT μ (gA μ k0 i (x % 2)) hk (fun k2 h2 => by funext i2; exact if_neg (fun z => h2 z.1)) (fun k2 h2 => rfl) ?_] at hP1
  · exact kk _ (hμ.gA (gRA.of32 _ (r32_b1 x))) h H1 locs1 ls hP1 hS1 hl
  · refine congrArg (fun z => Sum.inl (cT 1, n, Sum.inl z)) (funext fun j => ?_)
    rw [g_clamp hi]
    by_cases hj : j = i.toNat
    · subst hj
      show (if _ then _ else _) = Int32.ofInt (if _ then _ else _)
      rw [if_pos rfl, if_pos ⟨rfl, ofInt_toNat h0.1⟩]
      exact a32_and1 x
    · show (if _ then _ else _) = Int32.ofInt (if _ then _ else _)
      rw [if_neg hj, if_neg (fun z => hj (by omega))]
theorem o_alen (C : CX G dd cc nL own) {k0 tg n b : Nat} (hk : gKT[k0]? = some (tg, n, b, [])) (ht : tg ≤ 2) (hd : decode cc pc = .ok (.arraylength, 1)) (k : WM G nL μ (pc + 1) lv (vI n :: st)) : WM G nL μ pc lv (gR G k0 :: st) := by
  obtain ⟨p, l, e, R, s, m, args, below, meth, c, Q, D, ad, cT, A, cl, sl⟩ := G
  obtain ⟨hx, hb, hml, hown, hts, hlk, hK, hJ, hAd, hA, hSF, hfr, hlo, hcl, hsl⟩ := C
  intro H locs ls hP hS hl
  have hn : Int32.ofNat n = Int32.ofInt n := (Int32.ofInt_eq_ofNat).symm
  rcases (show tg = 0 ∨ tg = 1 ∨ tg = 2 by omega) with rfl | rfl | rfl
  · exact va_alen hx hb hK hP k0 0 (gWs_at ad cT μ hk) (ty := .int) rfl hn hd (k H locs ls hP hS hl)
  · exact va_alen hx hb hK hP k0 1 (gWs_at ad cT μ hk) (ty := .boolean) rfl hn hd (k H locs ls hP hS hl)
  · exact va_alen hx hb hK hP k0 2 (gWs_at ad cT μ hk) (ty := .long) rfl hn hd (k H locs ls hP hS hl)
theorem o_getI (C : CX G dd cc nL own) {k0 j ci idx : Nat} {fl : List (Nat × Nat)} {Cn : String} {T : u_T} {N : Nat} (hk : gKT[k0]? = some (5, ci, 0, fl)) (hj : fl[j]? = some (0, 0)) (hc : vwCl[ci]? = some (Cn, T, N)) (hj2 : j < N) (hl2 : Cond.fieldLink own idx (T j).1 (T j).2.1 (T j).2.2.1 ∈ gT) (hd : decode cc pc = .ok (.getfield idx, 3)) (k : WM G nL μ (pc + 3) lv (vI (μ.2 k0 j) :: st)) : WM G nL μ pc lv (gR G k0 :: st) := by
  obtain ⟨p, l, e, R, s, m, args, below, meth, c, Q, D, ad, cT, A, cl, sl⟩ := G
  obtain ⟨hx, hb, hml, hown, hts, hlk, hK, hJ, hAd, hA, hSF, hfr, hlo, hcl, hsl⟩ := C
  intro H locs ls hP hS hl
  refine va_get (v := vI (μ.2 k0 j)) hx hb hts (gIn ci _ hc) hown hK hP k0 (gWs_at ad cT μ hk) hc j hj2 (hts _ hl2) (fun _ h9 => h9) ?_ hd (k H locs ls hP hS hl)
  show (gFs ad μ k0 fl)[j]? = _
  unfold gFs
  rw [List.getElem?_mapIdx, hj]
  rfl
theorem o_getJ (C : CX G dd cc nL own) {k0 j ci idx : Nat} {fl : List (Nat × Nat)} {Cn : String} {T : u_T} {N : Nat} (hk : gKT[k0]? = some (5, ci, 0, fl)) (hj : fl[j]? = some (2, 0)) (hc : vwCl[ci]? = some (Cn, T, N)) (hj2 : j < N) (hl2 : Cond.fieldLink own idx (T j).1 (T j).2.1 (T j).2.2.1 ∈ gT) (hd : decode cc pc = .ok (.getfield idx, 3)) (k : WM G nL μ (pc + 3) lv (vJ (μ.2 k0 j) :: st)) : WM G nL μ pc lv (gR G k0 :: st) := by
  obtain ⟨p, l, e, R, s, m, args, below, meth, c, Q, D, ad, cT, A, cl, sl⟩ := G
  obtain ⟨hx, hb, hml, hown, hts, hlk, hK, hJ, hAd, hA, hSF, hfr, hlo, hcl, hsl⟩ := C
  intro H locs ls hP hS hl
  refine va_get (v := vJ (μ.2 k0 j)) hx hb hts (gIn ci _ hc) hown hK hP k0 (gWs_at ad cT μ hk) hc j hj2 (hts _ hl2) (fun _ h9 => h9) ?_ hd (k H locs ls hP hS hl)
  show (gFs ad μ k0 fl)[j]? = _
  unfold gFs
  rw [List.getElem?_mapIdx, hj]
  rfl
theorem o_getR (C : CX G dd cc nL own) {tg : Nat} {k0 j ci idx : Nat} {fl : List (Nat × Nat)} {Cn : String} {T : u_T} {N : Nat} (hk : gKT[k0]? = some (5, ci, 0, fl)) (hj : fl[j]? = some (3, tg)) (hc : vwCl[ci]? = some (Cn, T, N)) (hj2 : j < N) (hl2 : Cond.fieldLink own idx (T j).1 (T j).2.1 (T j).2.2.1 ∈ gT) (hd : decode cc pc = .ok (.getfield idx, 3)) (k : WM G nL μ (pc + 3) lv (gR G tg :: st)) : WM G nL μ pc lv (gR G k0 :: st) := by
  obtain ⟨p, l, e, R, s, m, args, below, meth, c, Q, D, ad, cT, A, cl, sl⟩ := G
  obtain ⟨hx, hb, hml, hown, hts, hlk, hK, hJ, hAd, hA, hSF, hfr, hlo, hcl, hsl⟩ := C
  intro H locs ls hP hS hl
  refine va_get (v := .ref (ad tg)) hx hb hts (gIn ci _ hc) hown hK hP k0 (gWs_at ad cT μ hk) hc j hj2 (hts _ hl2) (fun _ h9 => h9) ?_ hd (k H locs ls hP hS hl)
  show (gFs ad μ k0 fl)[j]? = _
  unfold gFs
  rw [List.getElem?_mapIdx, hj]
  rfl
theorem o_putI (C : CX G dd cc nL own) {α : Type} {f : GM → Option α} {u : α} {x : Int} {k0 j ci idx : Nat} {fl : List (Nat × Nat)} {Cn : String} {T : u_T} {N : Nat} {ty0 : Nat → FieldType} (hk : gKT[k0]? = some (5, ci, 0, fl)) (hj : fl[j]? = some (0, 0)) (hc : vwCl[ci]? = some (Cn, T, N)) (hty : ∀ k, k < N → parseFieldDescriptor (T k).2.2.1 = some (ty0 k)) (hnm : ∀ a, a < N → ∀ b, b < N → a ≠ b → (T a).2.1 ≠ (T b).2.1) (hj2 : j < N) (hl2 : Cond.fieldLink own idx (T j).1 (T j).2.1 (T j).2.2.1 ∈ gT) (hfin : (T j).2.2.2 = false) (ht : ty0 j = .int) (hx2 : r32 x) (hμ : gRg μ) (hd : decode cc pc = .ok (.putfield idx, 3)) (h : lm (gF μ k0 j x) f = some u) (kk : ∀ μ2, gRg μ2 → f μ2 = some u → WM G nL μ2 (pc + 3) lv st) : WM G nL μ pc lv (vI x :: gR G k0 :: st) := by
  obtain ⟨p, l, e, R, s, m, args, below, meth, c, Q, D, ad, cT, A, cl, sl⟩ := G
  obtain ⟨hx, hb, hml, hown, hts, hlk, hK, hJ, hAd, hA, hSF, hfr, hlo, hcl, hsl⟩ := C
  intro H locs ls hP hS hl
  have hjl : j < fl.length := (List.getElem?_eq_some_iff.mp hj).1
  refine va_put (v := vI x) (ty := .int) hx hb hts (gIn ci _ hc) ty0 hty hnm hown hK hP (gD_of hJ hAd) hS k0 (gWs_at ad cT μ hk) hc j hj2 (hts _ hl2) (fun _ h9 => h9) hfin (by rw [← ht]; exact hty j hj2) rfl rfl (by unfold gFs; rw [List.length_mapIdx]; exact hjl) hd (fun H1 locs1 hP1 hD1 hS1 => ?_)
  rw [gWs_set ad cT μ (gF μ k0 j x) hk (fun k2 h2 => rfl) (fun k2 h2 => by funext i2; exact if_neg (fun z => h2 z.1)) ?_] at hP1
  · exact kk _ (hμ.gF (gRF.of32 _ _ hx2)) h H1 locs1 ls hP1 hS1 hl
  · refine congrArg (fun z => Sum.inr (ci, z)) ?_
    apply List.ext_getElem?
    intro q
    by_cases hq : q = j
    · subst hq
      rw [List.getElem?_set_self (by unfold gFs; rw [List.length_mapIdx]; exact hjl)]
      unfold gFs
      rw [List.getElem?_mapIdx, hj]
      show _ = some (gV ad (if _ then _ else _) _)
      rw [if_pos ⟨rfl, rfl⟩]
      rfl
    · rw [List.getElem?_set_ne (Ne.symm hq)]
      unfold gFs
      rw [List.getElem?_mapIdx, List.getElem?_mapIdx]
      cases fl[q]? with
      | none => rfl
      | some e2 =>
        show some (gV ad (μ.2 k0 q) e2) = some (gV ad (if _ then _ else _) e2)
        rw [if_neg (fun z => hq z.2)]
theorem o_putJ (C : CX G dd cc nL own) {α : Type} {f : GM → Option α} {u : α} {x : Int} {k0 j ci idx : Nat} {fl : List (Nat × Nat)} {Cn : String} {T : u_T} {N : Nat} {ty0 : Nat → FieldType} (hk : gKT[k0]? = some (5, ci, 0, fl)) (hj : fl[j]? = some (2, 0)) (hc : vwCl[ci]? = some (Cn, T, N)) (hty : ∀ k, k < N → parseFieldDescriptor (T k).2.2.1 = some (ty0 k)) (hnm : ∀ a, a < N → ∀ b, b < N → a ≠ b → (T a).2.1 ≠ (T b).2.1) (hj2 : j < N) (hl2 : Cond.fieldLink own idx (T j).1 (T j).2.1 (T j).2.2.1 ∈ gT) (hfin : (T j).2.2.2 = false) (ht : ty0 j = .long) (hx2 : r64 x) (hμ : gRg μ) (hd : decode cc pc = .ok (.putfield idx, 3)) (h : lm (gF μ k0 j x) f = some u) (kk : ∀ μ2, gRg μ2 → f μ2 = some u → WM G nL μ2 (pc + 3) lv st) : WM G nL μ pc lv (vJ x :: gR G k0 :: st) := by
  obtain ⟨p, l, e, R, s, m, args, below, meth, c, Q, D, ad, cT, A, cl, sl⟩ := G
  obtain ⟨hx, hb, hml, hown, hts, hlk, hK, hJ, hAd, hA, hSF, hfr, hlo, hcl, hsl⟩ := C
  intro H locs ls hP hS hl
  have hjl : j < fl.length := (List.getElem?_eq_some_iff.mp hj).1
  refine va_put (v := vJ x) (ty := .long) hx hb hts (gIn ci _ hc) ty0 hty hnm hown hK hP (gD_of hJ hAd) hS k0 (gWs_at ad cT μ hk) hc j hj2 (hts _ hl2) (fun _ h9 => h9) hfin (by rw [← ht]; exact hty j hj2) rfl rfl (by unfold gFs; rw [List.length_mapIdx]; exact hjl) hd (fun H1 locs1 hP1 hD1 hS1 => ?_)
  rw [gWs_set ad cT μ (gF μ k0 j x) hk (fun k2 h2 => rfl) (fun k2 h2 => by funext i2; exact if_neg (fun z => h2 z.1)) ?_] at hP1
  · exact kk _ (hμ.gF (gRF.l hk hj hx2)) h H1 locs1 ls hP1 hS1 hl
  · refine congrArg (fun z => Sum.inr (ci, z)) ?_
    apply List.ext_getElem?
    intro q
    by_cases hq : q = j
    · subst hq
      rw [List.getElem?_set_self (by unfold gFs; rw [List.length_mapIdx]; exact hjl)]
      unfold gFs
      rw [List.getElem?_mapIdx, hj]
      show _ = some (gV ad (if _ then _ else _) _)
      rw [if_pos ⟨rfl, rfl⟩]
      rfl
    · rw [List.getElem?_set_ne (Ne.symm hq)]
      unfold gFs
      rw [List.getElem?_mapIdx, List.getElem?_mapIdx]
      cases fl[q]? with
      | none => rfl
      | some e2 =>
        show some (gV ad (μ.2 k0 q) e2) = some (gV ad (if _ then _ else _) e2)
        rw [if_neg (fun z => hq z.2)]
theorem o_getsF (C : CX G dd cc nL own) {idx : Nat} {ref : String} (hr : ref = "GroundWaters") (hl2 : Cond.fieldLinkNest own idx ref "FACTORIAL" "[I" "GroundWaters" ∈ gT) (hd : decode cc pc = .ok (.getstatic idx, 3)) (k : WM G nL μ (pc + 3) lv (gR G 998 :: st)) : WM G nL μ pc lv st := by
  obtain ⟨p, l, e, R, s, m, args, below, meth, c, Q, D, ad, cT, A, cl, sl⟩ := G
  obtain ⟨hx, hb, hml, hown, hts, hlk, hK, hJ, hAd, hA, hSF, hfr, hlo, hcl, hsl⟩ := C
  intro H locs ls hP hS hl
  subst hr
  exact va_getsN hx hb hSF.1 hS hown (hts _ hl2) (fun _ h9 => h9) hd (k H locs ls hP hS hl)
theorem o_faci (C : CX G dd cc nL own) {α : Type} {X : Option α} {u : α} {i : Int} (hi : r32 i) (hd : decode cc pc = .ok (.iaload, 1)) (h : ck (0 ≤ i ∧ i < 4) X = some u) (k : X = some u → WM G nL μ (pc + 1) lv (vI (gfac i.toNat) :: st)) : WM G nL μ pc lv (vI i :: gR G 998 :: st) := by
  obtain ⟨p, l, e, R, s, m, args, below, meth, c, Q, D, ad, cT, A, cl, sl⟩ := G
  obtain ⟨hx, hb, hml, hown, hts, hlk, hK, hJ, hAd, hA, hSF, hfr, hlo, hcl, hsl⟩ := C
  intro H locs ls hP hS hl
  obtain ⟨h0, h⟩ := ck_some h
  refine va_ti hx hb hSF.2 hS (vp_in_of_ck hi h0) (v := vI (gfac i.toNat)) (by rw [g_clamp hi]) hd ?_
  exact k h H locs ls hP hS hl
end GR