/-! contracts of methods over memory, calls, returns -/
def gW : List Cond := gT.filter goodWord
theorem gPart : ∀ w ∈ gT, goodWord w = true ∨ gIsNest w = true := fun w h => by
  have h1 := (List.mem_filter.mp h).2
  unfold gOk at h1
  exact (Bool.or_eq_true _ _).mp h1
theorem g_nfw : nativeFrameWords "java/lang/System" "arraycopy" 5 + 11 ≤ 39 := by decide +kernel
theorem gW_good : ∀ w ∈ gW, w ∈ gT ∧ goodWord w = true := fun w h => List.mem_filter.mp h
theorem gGI {y : MethodName} {cy : ByteArray} {n : Nat} {ret : Option FieldType} (h : Cond.code y cy n ret ∈ gT) : GoodIn gT (.code y cy n ret :: gW) := by
  intro w hw
  rcases List.mem_cons.mp hw with rfl | hw
  · exact ⟨h, Or.inl rfl⟩
  · exact ⟨(gW_good w hw).1, good_of_word (gW_good w hw).2⟩
def gNst (U : State) : Prop := ∀ w ∈ gT, gIsNest w = true → va_Nw w U
theorem gNst.of {args : Array Value} {s : State} (h : ∀ w ∈ gT, w.before args s = true) : gNst s := by
  intro w hw hn
  have h1 := h w hw
  cases w with
  | methodLinkNest a b c d => exact va_Nw.of rfl h1
  | fieldLinkNest a b c d e f => exact va_Nw.of rfl h1
  | _ => cases hn
theorem gNst.warm {s U : State} (hW : s.WarmedH U.vm) (h : gNst s) : gNst U := by
  intro w hw hn
  have h1 := h w hw hn
  cases w with
  | methodLinkNest a b c d => exact va_Nw.warmM hW h1
  | fieldLinkNest a b c d e f => exact va_Nw.warmF hW h1
  | _ => cases hn
theorem gNst.same {s U : State} (hv : s.vm = U.vm) (h : gNst s) : gNst U := by
  intro w hw hn
  have h1 := h w hw hn
  cases w with
  | methodLinkNest a b c d => exact va_Nw.same rfl hv h1
  | fieldLinkNest a b c d e f => exact va_Nw.same rfl hv h1
  | _ => cases hn
theorem gNst.all {args : Array Value} {s : State} (h : ∀ w ∈ gW, w.before args s = true) (hn : gNst s) : ∀ w ∈ gT, w.before args s = true := by
  intro w hw
  rcases gPart w hw with h1 | h1
  · exact h w (List.mem_filter.mpr ⟨hw, h1⟩)
  · have h2 := hn w hw h1
    cases w with
    | methodLinkNest a b c d => exact va_Nw.use rfl h2
    | fieldLinkNest a b c d e f => exact va_Nw.use rfl h2
    | _ => cases h1
theorem gSF.to {ad : Nat → Nat} {A B : Nat → Prop} {s U : State} {H : Heap} {locs : List Loc} (h : gSF ad A s s.heap) (hS : va_S A s.heap H locs) (hAB : ∀ q, B q → A q) (hvm : s.vm.Alike U.vm) : gSF ad B U H :=
  ⟨((h.1.kept (fun a h1 h2 => hS.2.1 a h1 h2)).narrow hAB).moved hvm, ((h.2.kept (fun a h1 h2 => hS.2.1 a h1 h2)).narrow hAB).moved hvm⟩
def gPre (D : va_G) (ad : Nat → Nat) (cT : Nat → ClassId) (μ : GM) (sz : Nat) (U : State) : Prop := va_P D vwCl (gWs ad cT μ) U.heap ∧ va_K D vwCl (gTy cT) U ∧ gInj ad ∧ gSF ad (va_A (gWs ad cT μ) sz) U U.heap ∧ gNst U
theorem gPre.blind {D : va_G} {ad : Nat → Nat} {cT : Nat → ClassId} {μ : GM} {sz : Nat} {av : List Value} : FrameBlind (va_Pc av (fun U => U.heap.size = sz ∧ gPre D ad cT μ sz U)) := by
  intro a U g mk q
  obtain ⟨q0, q1, qP, qK, qJ, qS, qN⟩ := q
  exact ⟨q0, q1, qP, va_K.moved (u := U) (U := U.calling g mk a) (Vm.Alike.refl U.vm) qK, qJ, ⟨qS.1.moved (U := U.calling g mk a) (Vm.Alike.refl U.vm), qS.2.moved (U := U.calling g mk a) (Vm.Alike.refl U.vm)⟩, gNst.same (s := U) (U := U.calling g mk a) rfl qN⟩
def gQuI (D : va_G) (ad : Nat → Nat) (cT : Nat → ClassId) (A : Nat → Prop) (u : Int × GM) : Array Value → State → Outcome → State → Prop := va_Qi (fun r (_ : Unit) => r = Int32.ofInt u.1 ∧ r32 u.1 ∧ gRg u.2) (fun _ t => va_P D vwCl (gWs ad cT u.2) t.heap) A
def gQuL (D : va_G) (ad : Nat → Nat) (cT : Nat → ClassId) (A : Nat → Prop) (u : Int × GM) : Array Value → State → Outcome → State → Prop := va_Ql (fun r (_ : Unit) => r = Int64.ofInt u.1 ∧ r64 u.1 ∧ gRg u.2) (fun _ t => va_P D vwCl (gWs ad cT u.2) t.heap) A
def gQuV (D : va_G) (ad : Nat → Nat) (cT : Nat → ClassId) (A : Nat → Prop) (u : Int × GM) : Array Value → State → Outcome → State → Prop := va_Qv (fun (_ : Unit) => gRg u.2) (fun _ t => va_P D vwCl (gWs ad cT u.2) t.heap) A
abbrev gRm (d : Nat) : Room := { frames := d, cells := 0, slots := 0, locals := 39 * d }
theorem Met.ofWF {l : Launch} {y : MethodName} {ws ws' : List Cond} {rm : Room} {Pc : Array Value → State → Prop} {Qc : Array Value → State → Outcome → State → Prop} {mc ms : Nat} {free : Addr → Prop} {cc : ByteArray} {maxL : Nat} {ret : Option FieldType}
    (hy : plainFor y = true) (hw : ws = Cond.code y cc maxL ret :: ws')
    (body : ∀ p e s m args below meth c s₁, BodyLoose p l y (headSpec ws rm) cc maxL ret e s m args below meth c s₁ → c.maxLocals = maxL → Pc args s →
      W p l e (headSpec ws rm).room s m args below meth c s.heap [] 0 0 (MQ below Qc args s mc ms free) (entryFrame m args maxL)) : Met l y ws rm Pc Qc mc ms free := by
  refine MetFree.of_bodySF (code := cc) (maxLocals := maxL) (ret := ret) hy ?_ ?_
  · intro args s m h hn
    obtain ⟨meth, c, h1, h2, h3, h4, h5, h6, -, -⟩ := Cond.code_spec hn (atoms_spec (ws := ws) h _ (by rw [hw]; exact List.mem_cons_self))
    exact ⟨meth, c, h1, h2, h3, h4, h5, h6⟩
  · intro p e s m args below meth c s₁ B hml hP _
    have hh0 : s₁.heap = s.heap := by rw [B.state]; rfl
    obtain ⟨t, a1, o, b1, b2, b3⟩ := body p e s m args below meth c s₁ B hml hP s₁ hh0 (Stand.of_body B)
    exact ⟨t, o, a1, b1, b2, ⟨b3.1, b3.2⟩⟩
def MtI (d : Nat) (y : MethodName) (cy : ByteArray) (nLy : Nat) (ret : Option FieldType) (av : (Nat → Nat) → List Value) (μ : GM) (u : Int × GM) : Prop :=
  ∀ (l : Launch) (D : va_G) (ad : Nat → Nat) (cT : Nat → ClassId) (sz : Nat), Met l y (.code y cy nLy ret :: gW) (gRm d) (va_Pc (av ad) (fun U => U.heap.size = sz ∧ gPre D ad cT μ sz U)) (gQuI D ad cT (va_A (gWs ad cT μ) sz) u) 0 0 (va_A (gWs ad cT μ) sz)
def gQI (G : GX) (ret : Option FieldType) (u : Int × GM) : Prop := match G with
  | (p, l, e, R, s, m, args, below, meth, c, Q, D, ad, cT, A, cl, sl) => meth.sig.returnType = ret ∧ Q = MQ below (gQuI D ad cT A u) args s cl sl A
theorem MtI.of {d : Nat} {y : MethodName} {cy : ByteArray} {nLy : Nat} {ret : Option FieldType} {av : (Nat → Nat) → List Value} {μ : GM} {u : Int × GM} (hy : plainFor y = true) (hlen : ∀ ad, (lg_sl (av ad)).length ≤ nLy) (body : ∀ G : GX, CX G d cy nLy y.cls → gQI G ret u → WM G nLy μ 0 (lv_args 0 (av (gad G))) []) : MtI d y cy nLy ret av μ u := by
  intro l D ad cT sz
  refine Met.ofWF (cc := cy) (maxL := nLy) (ret := ret) hy rfl ?_
  intro p e s m args below meth c s₁ B hml hv
  obtain ⟨rfl, hsz, hP, hK, hJ, hSF, hN⟩ := hv
  have hts := atoms_spec (ws := .code y cy nLy ret :: gW) B.pre
  have hown : s.vm.findClass y.cls = some m.cls := findClass_of_methodNamed B.named
  subst hsz
  rw [lg_entry_eq]
  exact body (p, l, e, (headSpec (.code y cy nLy ret :: gW) (gRm d)).room, s, m, _, below, meth, c, _, D, ad, cT, va_A (gWs ad cT μ) s.heap.size, 0, 0)
    ⟨B.exec, B.bytes, hml, hown, gNst.all (fun w hw => hts w (List.mem_cons_of_mem _ hw)) hN, B.notSynchronized, hK, hJ, fun k hk => gA_in hk, fun q h => Or.inr h, hSF, Nat.le_refl _, Nat.le_refl _, Nat.zero_le _, Nat.zero_le _⟩ ⟨B.returns, rfl⟩ s.heap [] _ hP va_S.rf (lv_entry (av ad) (hlen ad))
def MtL (d : Nat) (y : MethodName) (cy : ByteArray) (nLy : Nat) (ret : Option FieldType) (av : (Nat → Nat) → List Value) (μ : GM) (u : Int × GM) : Prop :=
  ∀ (l : Launch) (D : va_G) (ad : Nat → Nat) (cT : Nat → ClassId) (sz : Nat), Met l y (.code y cy nLy ret :: gW) (gRm d) (va_Pc (av ad) (fun U => U.heap.size = sz ∧ gPre D ad cT μ sz U)) (gQuL D ad cT (va_A (gWs ad cT μ) sz) u) 0 0 (va_A (gWs ad cT μ) sz)
def gQL (G : GX) (ret : Option FieldType) (u : Int × GM) : Prop := match G with
  | (p, l, e, R, s, m, args, below, meth, c, Q, D, ad, cT, A, cl, sl) => meth.sig.returnType = ret ∧ Q = MQ below (gQuL D ad cT A u) args s cl sl A
theorem MtL.of {d : Nat} {y : MethodName} {cy : ByteArray} {nLy : Nat} {ret : Option FieldType} {av : (Nat → Nat) → List Value} {μ : GM} {u : Int × GM} (hy : plainFor y = true) (hlen : ∀ ad, (lg_sl (av ad)).length ≤ nLy) (body : ∀ G : GX, CX G d cy nLy y.cls → gQL G ret u → WM G nLy μ 0 (lv_args 0 (av (gad G))) []) : MtL d y cy nLy ret av μ u := by
  intro l D ad cT sz
  refine Met.ofWF (cc := cy) (maxL := nLy) (ret := ret) hy rfl ?_
  intro p e s m args below meth c s₁ B hml hv
  obtain ⟨rfl, hsz, hP, hK, hJ, hSF, hN⟩ := hv
  have hts := atoms_spec (ws := .code y cy nLy ret :: gW) B.pre
  have hown : s.vm.findClass y.cls = some m.cls := findClass_of_methodNamed B.named
  subst hsz
  rw [lg_entry_eq]
  exact body (p, l, e, (headSpec (.code y cy nLy ret :: gW) (gRm d)).room, s, m, _, below, meth, c, _, D, ad, cT, va_A (gWs ad cT μ) s.heap.size, 0, 0)
    ⟨B.exec, B.bytes, hml, hown, gNst.all (fun w hw => hts w (List.mem_cons_of_mem _ hw)) hN, B.notSynchronized, hK, hJ, fun k hk => gA_in hk, fun q h => Or.inr h, hSF, Nat.le_refl _, Nat.le_refl _, Nat.zero_le _, Nat.zero_le _⟩ ⟨B.returns, rfl⟩ s.heap [] _ hP va_S.rf (lv_entry (av ad) (hlen ad))
def MtV (d : Nat) (y : MethodName) (cy : ByteArray) (nLy : Nat) (ret : Option FieldType) (av : (Nat → Nat) → List Value) (μ : GM) (u : Int × GM) : Prop :=
  ∀ (l : Launch) (D : va_G) (ad : Nat → Nat) (cT : Nat → ClassId) (sz : Nat), Met l y (.code y cy nLy ret :: gW) (gRm d) (va_Pc (av ad) (fun U => U.heap.size = sz ∧ gPre D ad cT μ sz U)) (gQuV D ad cT (va_A (gWs ad cT μ) sz) u) 0 0 (va_A (gWs ad cT μ) sz)
def gQV (G : GX) (ret : Option FieldType) (u : Int × GM) : Prop := match G with
  | (p, l, e, R, s, m, args, below, meth, c, Q, D, ad, cT, A, cl, sl) => meth.sig.returnType = ret ∧ Q = MQ below (gQuV D ad cT A u) args s cl sl A
theorem MtV.of {d : Nat} {y : MethodName} {cy : ByteArray} {nLy : Nat} {ret : Option FieldType} {av : (Nat → Nat) → List Value} {μ : GM} {u : Int × GM} (hy : plainFor y = true) (hlen : ∀ ad, (lg_sl (av ad)).length ≤ nLy) (body : ∀ G : GX, CX G d cy nLy y.cls → gQV G ret u → WM G nLy μ 0 (lv_args 0 (av (gad G))) []) : MtV d y cy nLy ret av μ u := by
  intro l D ad cT sz
  refine Met.ofWF (cc := cy) (maxL := nLy) (ret := ret) hy rfl ?_
  intro p e s m args below meth c s₁ B hml hv
  obtain ⟨rfl, hsz, hP, hK, hJ, hSF, hN⟩ := hv
  have hts := atoms_spec (ws := .code y cy nLy ret :: gW) B.pre
  have hown : s.vm.findClass y.cls = some m.cls := findClass_of_methodNamed B.named
  subst hsz
  rw [lg_entry_eq]
  exact body (p, l, e, (headSpec (.code y cy nLy ret :: gW) (gRm d)).room, s, m, _, below, meth, c, _, D, ad, cT, va_A (gWs ad cT μ) s.heap.size, 0, 0)
    ⟨B.exec, B.bytes, hml, hown, gNst.all (fun w hw => hts w (List.mem_cons_of_mem _ hw)) hN, B.notSynchronized, hK, hJ, fun k hk => gA_in hk, fun q h => Or.inr h, hSF, Nat.le_refl _, Nat.le_refl _, Nat.zero_le _, Nat.zero_le _⟩ ⟨B.returns, rfl⟩ s.heap [] _ hP va_S.rf (lv_entry (av ad) (hlen ad))
def MB (y : MethodName) (cy : ByteArray) (nLy : Nat) (ret : Option FieldType) (n : Nat) : Prop := Cond.code y cy nLy ret ∈ gT ∧ Cond.initialized y.cls ∈ gT ∧ (y.cls ≠ "java/lang/invoke/MethodHandle" ∧ y.cls ≠ "java/lang/invoke/VarHandle" ∧ (parseMethodDescriptor y.desc).map (fun d => d.parameters.length) = some n) ∧ nLy ≤ 20
section GC
variable {G : GX} {dd : Nat} {cc : ByteArray} {nL : Nat} {own : String} {μ : GM} {pc : Nat} {lv : List (Nat × Value)} {st stk : List Value}
theorem o_cVI (C : CX G dd cc nL own) {α : Type} {f : Int → GM → Option α} {o : Option (Int × GM)} {uu : α} {d : Nat} {y : MethodName} {cy : ByteArray} {nLy : Nat} {ret : Option FieldType} {n idx : Nat} {av : (Nat → Nat) → List Value} (As : List Value) (hm : MB y cy nLy ret n) (hdd : d + 1 ≤ dd) (hM : ∀ u, o = some u → MtI d y cy nLy ret av μ u) (hn : As.length = n) (hcat : (st.map fun v => v.category).sum ≤ 8) (h : bd o f = some uu) {k0 ci : Nat} {fl : List (Nat × Nat)} {T : u_T} {N : Nat} (hin : Cond.instanceMethod y ∈ gT) (hse : Cond.selects y.cls y y ∈ gT) (hlnk : Cond.methodLink own idx y ∈ gT) (hk : gKT[k0]? = some (5, ci, 0, fl)) (hc : vwCl[ci]? = some (y.cls, T, N)) (hav : av (gad G) = gR G k0 :: As) (hst : stk = As.reverse ++ gR G k0 :: st) (hd : decode cc pc = .ok (.invokevirtual idx, 3)) (kk : ∀ x μ2, r32 x → gRg μ2 → f x μ2 = some uu → WM G nL μ2 (pc + 3) lv (vI x :: st)) : WM G nL μ pc lv stk := by
  obtain ⟨p, l, e, R, s, m, args, below, meth, c, Q, D, ad, cT, A, cl, sl⟩ := G
  obtain ⟨hx, hb, hml, hown, hts, hlk, hK, hJ, hAd, hA, hSF, hfr, hlo, hcl, hsl⟩ := C
  intro H locs ls hP hS hl
  subst hst
  obtain ⟨u, hu, h⟩ := bd_some h
  have hM1 := hM u hu l D ad cT H.size
  have hFc : ∀ q, va_A (gWs ad cT μ) H.size q → A q := by
    intro q hq
    rcases hq with ⟨k2, e2, h2⟩ | h2
    · exact (gD_of hJ hAd).2 k2 (q, e2) h2
    · exact hA q (Nat.le_trans hS.1 h2)
  have pre : ∀ U : State, U.heap = H → s.WarmedH U.vm → gPre D ad cT μ H.size U := fun U hU hW => ⟨by rw [hU]; exact hP, va_K.moved hW.alike hK, hJ, by rw [hU]; exact hSF.to hS hFc hW.alike, (gNst.of hts).warm hW⟩
  refine va_calli (va_runV (As := As) (rest := st) ⟨hx, hb, hml, hown, hts⟩ hM1 ⟨callB_of n hts (gGI hm.1) rfl rfl rfl (hts _ hm.2.1) (hts _ hlnk) hm.2.2.1 ⟨by show d + 1 ≤ R.frames; omega, by show 8 + (nLy + 11) + 39 * d ≤ R.locals; have := hm.2.2.2; omega⟩, hts _ hin, hts _ hse⟩ ⟨gPre.blind, va_recv hK hP (ci := ci) (q0 := k0) hc (gWs_at ad cT μ hk), fun U hU hW => ⟨by rw [hav], by rw [hU], pre U hU hW⟩⟩ rfl hn hl.1 rfl (lv_room hcat) hd ⟨hcl, hsl⟩) hS (fun q _ hq => hFc q hq) hFc (fun r u2 t H1 locs1 ht hvm hw hB hz1 hk1 hS1 => ?_)
  obtain ⟨rfl, hr1, hr2⟩ := hw
  exact kk u.1 u.2 hr1 hr2 h H1 locs1 ls (by rw [← ht]; exact hB) hS1 hl
theorem o_cSI (C : CX G dd cc nL own) {α : Type} {f : Int → GM → Option α} {o : Option (Int × GM)} {uu : α} {d : Nat} {y : MethodName} {cy : ByteArray} {nLy : Nat} {ret : Option FieldType} {n idx : Nat} {av : (Nat → Nat) → List Value} (As : List Value) (hm : MB y cy nLy ret n) (hdd : d + 1 ≤ dd) (hM : ∀ u, o = some u → MtI d y cy nLy ret av μ u) (hn : As.length = n) (hcat : (st.map fun v => v.category).sum ≤ 8) (h : bd o f = some uu) (hin : Cond.static y ∈ gT) (hlnk : Cond.methodLink own idx y ∈ gT) (hav : av (gad G) = As) (hst : stk = As.reverse ++ st) (hd : decode cc pc = .ok (.invokestatic idx, 3)) (kk : ∀ x μ2, r32 x → gRg μ2 → f x μ2 = some uu → WM G nL μ2 (pc + 3) lv (vI x :: st)) : WM G nL μ pc lv stk := by
  obtain ⟨p, l, e, R, s, m, args, below, meth, c, Q, D, ad, cT, A, cl, sl⟩ := G
  obtain ⟨hx, hb, hml, hown, hts, hlk, hK, hJ, hAd, hA, hSF, hfr, hlo, hcl, hsl⟩ := C
  intro H locs ls hP hS hl
  subst hst
  obtain ⟨u, hu, h⟩ := bd_some h
  have hM1 := hM u hu l D ad cT H.size
  have hFc : ∀ q, va_A (gWs ad cT μ) H.size q → A q := by
    intro q hq
    rcases hq with ⟨k2, e2, h2⟩ | h2
    · exact (gD_of hJ hAd).2 k2 (q, e2) h2
    · exact hA q (Nat.le_trans hS.1 h2)
  have pre : ∀ U : State, U.heap = H → s.WarmedH U.vm → gPre D ad cT μ H.size U := fun U hU hW => ⟨by rw [hU]; exact hP, va_K.moved hW.alike hK, hJ, by rw [hU]; exact hSF.to hS hFc hW.alike, (gNst.of hts).warm hW⟩
  refine va_calli (va_runS (As := As) (rest := st) ⟨hx, hb, hml, hown, hts⟩ hM1 ⟨callB_of n hts (gGI hm.1) rfl rfl rfl (hts _ hm.2.1) (hts _ hlnk) hm.2.2.1 ⟨by show d + 1 ≤ R.frames; omega, by show 8 + (nLy + 11) + 39 * d ≤ R.locals; have := hm.2.2.2; omega⟩, hts _ hin⟩ ⟨gPre.blind, fun U hU hW => ⟨by rw [hav], by rw [hU], pre U hU hW⟩⟩ rfl hn hl.1 rfl (lv_room hcat) hd ⟨hcl, hsl⟩) hS (fun q _ hq => hFc q hq) hFc (fun r u2 t H1 locs1 ht hvm hw hB hz1 hk1 hS1 => ?_)
  obtain ⟨rfl, hr1, hr2⟩ := hw
  exact kk u.1 u.2 hr1 hr2 h H1 locs1 ls (by rw [← ht]; exact hB) hS1 hl
theorem o_cNI (C : CX G dd cc nL own) {α : Type} {f : Int → GM → Option α} {o : Option (Int × GM)} {uu : α} {d : Nat} {y : MethodName} {cy : ByteArray} {nLy : Nat} {ret : Option FieldType} {n idx : Nat} {av : (Nat → Nat) → List Value} (As : List Value) (hm : MB y cy nLy ret n) (hdd : d + 1 ≤ dd) (hM : ∀ u, o = some u → MtI d y cy nLy ret av μ u) (hn : As.length = n) (hcat : (st.map fun v => v.category).sum ≤ 8) (h : bd o f = some uu) {host : String} (hin : Cond.static y ∈ gT) (hlnk : Cond.methodLinkNest own idx y host ∈ gT) (hav : av (gad G) = As) (hst : stk = As.reverse ++ st) (hd : decode cc pc = .ok (.invokestatic idx, 3)) (kk : ∀ x μ2, r32 x → gRg μ2 → f x μ2 = some uu → WM G nL μ2 (pc + 3) lv (vI x :: st)) : WM G nL μ pc lv stk := by
  obtain ⟨p, l, e, R, s, m, args, below, meth, c, Q, D, ad, cT, A, cl, sl⟩ := G
  obtain ⟨hx, hb, hml, hown, hts, hlk, hK, hJ, hAd, hA, hSF, hfr, hlo, hcl, hsl⟩ := C
  intro H locs ls hP hS hl
  subst hst
  obtain ⟨u, hu, h⟩ := bd_some h
  have hM1 := hM u hu l D ad cT H.size
  have hFc : ∀ q, va_A (gWs ad cT μ) H.size q → A q := by
    intro q hq
    rcases hq with ⟨k2, e2, h2⟩ | h2
    · exact (gD_of hJ hAd).2 k2 (q, e2) h2
    · exact hA q (Nat.le_trans hS.1 h2)
  have pre : ∀ U : State, U.heap = H → s.WarmedH U.vm → gPre D ad cT μ H.size U := fun U hU hW => ⟨by rw [hU]; exact hP, va_K.moved hW.alike hK, hJ, by rw [hU]; exact hSF.to hS hFc hW.alike, (gNst.of hts).warm hW⟩
  refine va_calli (va_runSN (host := host) (As := As) (rest := st) ⟨hx, hb, hml, hown, hts⟩ hM1 ⟨va_cnB n hts (gGI hm.1) rfl rfl rfl (va_Nw.of rfl (hts _ hlnk)) (hts _ hm.2.1) hm.2.2.1 ⟨by show d + 1 ≤ R.frames; omega, by show 8 + (nLy + 11) + 39 * d ≤ R.locals; have := hm.2.2.2; omega⟩, hts _ hin, trivial⟩ ⟨gPre.blind, fun U hU hW => ⟨by rw [hav], by rw [hU], pre U hU hW⟩⟩ rfl hn hl.1 rfl (lv_room hcat) hd ⟨hcl, hsl⟩) hS (fun q _ hq => hFc q hq) hFc (fun r u2 t H1 locs1 ht hvm hw hB hz1 hk1 hS1 => ?_)
  obtain ⟨rfl, hr1, hr2⟩ := hw
  exact kk u.1 u.2 hr1 hr2 h H1 locs1 ls (by rw [← ht]; exact hB) hS1 hl
theorem o_cVL (C : CX G dd cc nL own) {α : Type} {f : Int → GM → Option α} {o : Option (Int × GM)} {uu : α} {d : Nat} {y : MethodName} {cy : ByteArray} {nLy : Nat} {ret : Option FieldType} {n idx : Nat} {av : (Nat → Nat) → List Value} (As : List Value) (hm : MB y cy nLy ret n) (hdd : d + 1 ≤ dd) (hM : ∀ u, o = some u → MtL d y cy nLy ret av μ u) (hn : As.length = n) (hcat : (st.map fun v => v.category).sum ≤ 8) (h : bd o f = some uu) {k0 ci : Nat} {fl : List (Nat × Nat)} {T : u_T} {N : Nat} (hin : Cond.instanceMethod y ∈ gT) (hse : Cond.selects y.cls y y ∈ gT) (hlnk : Cond.methodLink own idx y ∈ gT) (hk : gKT[k0]? = some (5, ci, 0, fl)) (hc : vwCl[ci]? = some (y.cls, T, N)) (hav : av (gad G) = gR G k0 :: As) (hst : stk = As.reverse ++ gR G k0 :: st) (hd : decode cc pc = .ok (.invokevirtual idx, 3)) (kk : ∀ x μ2, r64 x → gRg μ2 → f x μ2 = some uu → WM G nL μ2 (pc + 3) lv (vJ x :: st)) : WM G nL μ pc lv stk := by
  obtain ⟨p, l, e, R, s, m, args, below, meth, c, Q, D, ad, cT, A, cl, sl⟩ := G
  obtain ⟨hx, hb, hml, hown, hts, hlk, hK, hJ, hAd, hA, hSF, hfr, hlo, hcl, hsl⟩ := C
  intro H locs ls hP hS hl
  subst hst
  obtain ⟨u, hu, h⟩ := bd_some h
  have hM1 := hM u hu l D ad cT H.size
  have hFc : ∀ q, va_A (gWs ad cT μ) H.size q → A q := by
    intro q hq
    rcases hq with ⟨k2, e2, h2⟩ | h2
    · exact (gD_of hJ hAd).2 k2 (q, e2) h2
    · exact hA q (Nat.le_trans hS.1 h2)
  have pre : ∀ U : State, U.heap = H → s.WarmedH U.vm → gPre D ad cT μ H.size U := fun U hU hW => ⟨by rw [hU]; exact hP, va_K.moved hW.alike hK, hJ, by rw [hU]; exact hSF.to hS hFc hW.alike, (gNst.of hts).warm hW⟩
  refine va_calll (va_runV (As := As) (rest := st) ⟨hx, hb, hml, hown, hts⟩ hM1 ⟨callB_of n hts (gGI hm.1) rfl rfl rfl (hts _ hm.2.1) (hts _ hlnk) hm.2.2.1 ⟨by show d + 1 ≤ R.frames; omega, by show 8 + (nLy + 11) + 39 * d ≤ R.locals; have := hm.2.2.2; omega⟩, hts _ hin, hts _ hse⟩ ⟨gPre.blind, va_recv hK hP (ci := ci) (q0 := k0) hc (gWs_at ad cT μ hk), fun U hU hW => ⟨by rw [hav], by rw [hU], pre U hU hW⟩⟩ rfl hn hl.1 rfl (lv_room hcat) hd ⟨hcl, hsl⟩) hS (fun q _ hq => hFc q hq) hFc (fun r u2 t H1 locs1 ht hvm hw hB hz1 hk1 hS1 => ?_)
  obtain ⟨rfl, hr1, hr2⟩ := hw
  exact kk u.1 u.2 hr1 hr2 h H1 locs1 ls (by rw [← ht]; exact hB) hS1 hl
theorem o_cSL (C : CX G dd cc nL own) {α : Type} {f : Int → GM → Option α} {o : Option (Int × GM)} {uu : α} {d : Nat} {y : MethodName} {cy : ByteArray} {nLy : Nat} {ret : Option FieldType} {n idx : Nat} {av : (Nat → Nat) → List Value} (As : List Value) (hm : MB y cy nLy ret n) (hdd : d + 1 ≤ dd) (hM : ∀ u, o = some u → MtL d y cy nLy ret av μ u) (hn : As.length = n) (hcat : (st.map fun v => v.category).sum ≤ 8) (h : bd o f = some uu) (hin : Cond.static y ∈ gT) (hlnk : Cond.methodLink own idx y ∈ gT) (hav : av (gad G) = As) (hst : stk = As.reverse ++ st) (hd : decode cc pc = .ok (.invokestatic idx, 3)) (kk : ∀ x μ2, r64 x → gRg μ2 → f x μ2 = some uu → WM G nL μ2 (pc + 3) lv (vJ x :: st)) : WM G nL μ pc lv stk := by
  obtain ⟨p, l, e, R, s, m, args, below, meth, c, Q, D, ad, cT, A, cl, sl⟩ := G
  obtain ⟨hx, hb, hml, hown, hts, hlk, hK, hJ, hAd, hA, hSF, hfr, hlo, hcl, hsl⟩ := C
  intro H locs ls hP hS hl
  subst hst
  obtain ⟨u, hu, h⟩ := bd_some h
  have hM1 := hM u hu l D ad cT H.size
  have hFc : ∀ q, va_A (gWs ad cT μ) H.size q → A q := by
    intro q hq
    rcases hq with ⟨k2, e2, h2⟩ | h2
    · exact (gD_of hJ hAd).2 k2 (q, e2) h2
    · exact hA q (Nat.le_trans hS.1 h2)
  have pre : ∀ U : State, U.heap = H → s.WarmedH U.vm → gPre D ad cT μ H.size U := fun U hU hW => ⟨by rw [hU]; exact hP, va_K.moved hW.alike hK, hJ, by rw [hU]; exact hSF.to hS hFc hW.alike, (gNst.of hts).warm hW⟩
  refine va_calll (va_runS (As := As) (rest := st) ⟨hx, hb, hml, hown, hts⟩ hM1 ⟨callB_of n hts (gGI hm.1) rfl rfl rfl (hts _ hm.2.1) (hts _ hlnk) hm.2.2.1 ⟨by show d + 1 ≤ R.frames; omega, by show 8 + (nLy + 11) + 39 * d ≤ R.locals; have := hm.2.2.2; omega⟩, hts _ hin⟩ ⟨gPre.blind, fun U hU hW => ⟨by rw [hav], by rw [hU], pre U hU hW⟩⟩ rfl hn hl.1 rfl (lv_room hcat) hd ⟨hcl, hsl⟩) hS (fun q _ hq => hFc q hq) hFc (fun r u2 t H1 locs1 ht hvm hw hB hz1 hk1 hS1 => ?_)
  obtain ⟨rfl, hr1, hr2⟩ := hw
  exact kk u.1 u.2 hr1 hr2 h H1 locs1 ls (by rw [← ht]; exact hB) hS1 hl
theorem o_cNL (C : CX G dd cc nL own) {α : Type} {f : Int → GM → Option α} {o : Option (Int × GM)} {uu : α} {d : Nat} {y : MethodName} {cy : ByteArray} {nLy : Nat} {ret : Option FieldType} {n idx : Nat} {av : (Nat → Nat) → List Value} (As : List Value) (hm : MB y cy nLy ret n) (hdd : d + 1 ≤ dd) (hM : ∀ u, o = some u → MtL d y cy nLy ret av μ u) (hn : As.length = n) (hcat : (st.map fun v => v.category).sum ≤ 8) (h : bd o f = some uu) {host : String} (hin : Cond.static y ∈ gT) (hlnk : Cond.methodLinkNest own idx y host ∈ gT) (hav : av (gad G) = As) (hst : stk = As.reverse ++ st) (hd : decode cc pc = .ok (.invokestatic idx, 3)) (kk : ∀ x μ2, r64 x → gRg μ2 → f x μ2 = some uu → WM G nL μ2 (pc + 3) lv (vJ x :: st)) : WM G nL μ pc lv stk := by
  obtain ⟨p, l, e, R, s, m, args, below, meth, c, Q, D, ad, cT, A, cl, sl⟩ := G
  obtain ⟨hx, hb, hml, hown, hts, hlk, hK, hJ, hAd, hA, hSF, hfr, hlo, hcl, hsl⟩ := C
  intro H locs ls hP hS hl
  subst hst
  obtain ⟨u, hu, h⟩ := bd_some h
  have hM1 := hM u hu l D ad cT H.size
  have hFc : ∀ q, va_A (gWs ad cT μ) H.size q → A q := by
    intro q hq
    rcases hq with ⟨k2, e2, h2⟩ | h2
    · exact (gD_of hJ hAd).2 k2 (q, e2) h2
    · exact hA q (Nat.le_trans hS.1 h2)
  have pre : ∀ U : State, U.heap = H → s.WarmedH U.vm → gPre D ad cT μ H.size U := fun U hU hW => ⟨by rw [hU]; exact hP, va_K.moved hW.alike hK, hJ, by rw [hU]; exact hSF.to hS hFc hW.alike, (gNst.of hts).warm hW⟩
  refine va_calll (va_runSN (host := host) (As := As) (rest := st) ⟨hx, hb, hml, hown, hts⟩ hM1 ⟨va_cnB n hts (gGI hm.1) rfl rfl rfl (va_Nw.of rfl (hts _ hlnk)) (hts _ hm.2.1) hm.2.2.1 ⟨by show d + 1 ≤ R.frames; omega, by show 8 + (nLy + 11) + 39 * d ≤ R.locals; have := hm.2.2.2; omega⟩, hts _ hin, trivial⟩ ⟨gPre.blind, fun U hU hW => ⟨by rw [hav], by rw [hU], pre U hU hW⟩⟩ rfl hn hl.1 rfl (lv_room hcat) hd ⟨hcl, hsl⟩) hS (fun q _ hq => hFc q hq) hFc (fun r u2 t H1 locs1 ht hvm hw hB hz1 hk1 hS1 => ?_)
  obtain ⟨rfl, hr1, hr2⟩ := hw
  exact kk u.1 u.2 hr1 hr2 h H1 locs1 ls (by rw [← ht]; exact hB) hS1 hl
theorem o_cVV (C : CX G dd cc nL own) {α : Type} {f : Int → GM → Option α} {o : Option (Int × GM)} {uu : α} {d : Nat} {y : MethodName} {cy : ByteArray} {nLy : Nat} {ret : Option FieldType} {n idx : Nat} {av : (Nat → Nat) → List Value} (As : List Value) (hm : MB y cy nLy ret n) (hdd : d + 1 ≤ dd) (hM : ∀ u, o = some u → MtV d y cy nLy ret av μ u) (hn : As.length = n) (hcat : (st.map fun v => v.category).sum ≤ 8) (h : bd o f = some uu) {k0 ci : Nat} {fl : List (Nat × Nat)} {T : u_T} {N : Nat} (hin : Cond.instanceMethod y ∈ gT) (hse : Cond.selects y.cls y y ∈ gT) (hlnk : Cond.methodLink own idx y ∈ gT) (hk : gKT[k0]? = some (5, ci, 0, fl)) (hc : vwCl[ci]? = some (y.cls, T, N)) (hav : av (gad G) = gR G k0 :: As) (hst : stk = As.reverse ++ gR G k0 :: st) (hd : decode cc pc = .ok (.invokevirtual idx, 3)) (kk : ∀ x μ2, gRg μ2 → f x μ2 = some uu → WM G nL μ2 (pc + 3) lv st) : WM G nL μ pc lv stk := by
  obtain ⟨p, l, e, R, s, m, args, below, meth, c, Q, D, ad, cT, A, cl, sl⟩ := G
  obtain ⟨hx, hb, hml, hown, hts, hlk, hK, hJ, hAd, hA, hSF, hfr, hlo, hcl, hsl⟩ := C
  intro H locs ls hP hS hl
  subst hst
  obtain ⟨u, hu, h⟩ := bd_some h
  have hM1 := hM u hu l D ad cT H.size
  have hFc : ∀ q, va_A (gWs ad cT μ) H.size q → A q := by
    intro q hq
    rcases hq with ⟨k2, e2, h2⟩ | h2
    · exact (gD_of hJ hAd).2 k2 (q, e2) h2
    · exact hA q (Nat.le_trans hS.1 h2)
  have pre : ∀ U : State, U.heap = H → s.WarmedH U.vm → gPre D ad cT μ H.size U := fun U hU hW => ⟨by rw [hU]; exact hP, va_K.moved hW.alike hK, hJ, by rw [hU]; exact hSF.to hS hFc hW.alike, (gNst.of hts).warm hW⟩
  refine va_callv (va_runV (As := As) (rest := st) ⟨hx, hb, hml, hown, hts⟩ hM1 ⟨callB_of n hts (gGI hm.1) rfl rfl rfl (hts _ hm.2.1) (hts _ hlnk) hm.2.2.1 ⟨by show d + 1 ≤ R.frames; omega, by show 8 + (nLy + 11) + 39 * d ≤ R.locals; have := hm.2.2.2; omega⟩, hts _ hin, hts _ hse⟩ ⟨gPre.blind, va_recv hK hP (ci := ci) (q0 := k0) hc (gWs_at ad cT μ hk), fun U hU hW => ⟨by rw [hav], by rw [hU], pre U hU hW⟩⟩ rfl hn hl.1 rfl (lv_room hcat) hd ⟨hcl, hsl⟩) hS (fun q _ hq => hFc q hq) hFc (fun u2 t H1 locs1 ht hvm hw hB hz1 hk1 hS1 => ?_)
  exact kk u.1 u.2 hw h H1 locs1 ls (by rw [← ht]; exact hB) hS1 hl
theorem o_cSV (C : CX G dd cc nL own) {α : Type} {f : Int → GM → Option α} {o : Option (Int × GM)} {uu : α} {d : Nat} {y : MethodName} {cy : ByteArray} {nLy : Nat} {ret : Option FieldType} {n idx : Nat} {av : (Nat → Nat) → List Value} (As : List Value) (hm : MB y cy nLy ret n) (hdd : d + 1 ≤ dd) (hM : ∀ u, o = some u → MtV d y cy nLy ret av μ u) (hn : As.length = n) (hcat : (st.map fun v => v.category).sum ≤ 8) (h : bd o f = some uu) (hin : Cond.static y ∈ gT) (hlnk : Cond.methodLink own idx y ∈ gT) (hav : av (gad G) = As) (hst : stk = As.reverse ++ st) (hd : decode cc pc = .ok (.invokestatic idx, 3)) (kk : ∀ x μ2, gRg μ2 → f x μ2 = some uu → WM G nL μ2 (pc + 3) lv st) : WM G nL μ pc lv stk := by
  obtain ⟨p, l, e, R, s, m, args, below, meth, c, Q, D, ad, cT, A, cl, sl⟩ := G
  obtain ⟨hx, hb, hml, hown, hts, hlk, hK, hJ, hAd, hA, hSF, hfr, hlo, hcl, hsl⟩ := C
  intro H locs ls hP hS hl
  subst hst
  obtain ⟨u, hu, h⟩ := bd_some h
  have hM1 := hM u hu l D ad cT H.size
  have hFc : ∀ q, va_A (gWs ad cT μ) H.size q → A q := by
    intro q hq
    rcases hq with ⟨k2, e2, h2⟩ | h2
    · exact (gD_of hJ hAd).2 k2 (q, e2) h2
    · exact hA q (Nat.le_trans hS.1 h2)
  have pre : ∀ U : State, U.heap = H → s.WarmedH U.vm → gPre D ad cT μ H.size U := fun U hU hW => ⟨by rw [hU]; exact hP, va_K.moved hW.alike hK, hJ, by rw [hU]; exact hSF.to hS hFc hW.alike, (gNst.of hts).warm hW⟩
  refine va_callv (va_runS (As := As) (rest := st) ⟨hx, hb, hml, hown, hts⟩ hM1 ⟨callB_of n hts (gGI hm.1) rfl rfl rfl (hts _ hm.2.1) (hts _ hlnk) hm.2.2.1 ⟨by show d + 1 ≤ R.frames; omega, by show 8 + (nLy + 11) + 39 * d ≤ R.locals; have := hm.2.2.2; omega⟩, hts _ hin⟩ ⟨gPre.blind, fun U hU hW => ⟨by rw [hav], by rw [hU], pre U hU hW⟩⟩ rfl hn hl.1 rfl (lv_room hcat) hd ⟨hcl, hsl⟩) hS (fun q _ hq => hFc q hq) hFc (fun u2 t H1 locs1 ht hvm hw hB hz1 hk1 hS1 => ?_)
  exact kk u.1 u.2 hw h H1 locs1 ls (by rw [← ht]; exact hB) hS1 hl
theorem o_cNV (C : CX G dd cc nL own) {α : Type} {f : Int → GM → Option α} {o : Option (Int × GM)} {uu : α} {d : Nat} {y : MethodName} {cy : ByteArray} {nLy : Nat} {ret : Option FieldType} {n idx : Nat} {av : (Nat → Nat) → List Value} (As : List Value) (hm : MB y cy nLy ret n) (hdd : d + 1 ≤ dd) (hM : ∀ u, o = some u → MtV d y cy nLy ret av μ u) (hn : As.length = n) (hcat : (st.map fun v => v.category).sum ≤ 8) (h : bd o f = some uu) {host : String} (hin : Cond.static y ∈ gT) (hlnk : Cond.methodLinkNest own idx y host ∈ gT) (hav : av (gad G) = As) (hst : stk = As.reverse ++ st) (hd : decode cc pc = .ok (.invokestatic idx, 3)) (kk : ∀ x μ2, gRg μ2 → f x μ2 = some uu → WM G nL μ2 (pc + 3) lv st) : WM G nL μ pc lv stk := by
  obtain ⟨p, l, e, R, s, m, args, below, meth, c, Q, D, ad, cT, A, cl, sl⟩ := G
  obtain ⟨hx, hb, hml, hown, hts, hlk, hK, hJ, hAd, hA, hSF, hfr, hlo, hcl, hsl⟩ := C
  intro H locs ls hP hS hl
  subst hst
  obtain ⟨u, hu, h⟩ := bd_some h
  have hM1 := hM u hu l D ad cT H.size
  have hFc : ∀ q, va_A (gWs ad cT μ) H.size q → A q := by
    intro q hq
    rcases hq with ⟨k2, e2, h2⟩ | h2
    · exact (gD_of hJ hAd).2 k2 (q, e2) h2
    · exact hA q (Nat.le_trans hS.1 h2)
  have pre : ∀ U : State, U.heap = H → s.WarmedH U.vm → gPre D ad cT μ H.size U := fun U hU hW => ⟨by rw [hU]; exact hP, va_K.moved hW.alike hK, hJ, by rw [hU]; exact hSF.to hS hFc hW.alike, (gNst.of hts).warm hW⟩
  refine va_callv (va_runSN (host := host) (As := As) (rest := st) ⟨hx, hb, hml, hown, hts⟩ hM1 ⟨va_cnB n hts (gGI hm.1) rfl rfl rfl (va_Nw.of rfl (hts _ hlnk)) (hts _ hm.2.1) hm.2.2.1 ⟨by show d + 1 ≤ R.frames; omega, by show 8 + (nLy + 11) + 39 * d ≤ R.locals; have := hm.2.2.2; omega⟩, hts _ hin, trivial⟩ ⟨gPre.blind, fun U hU hW => ⟨by rw [hav], by rw [hU], pre U hU hW⟩⟩ rfl hn hl.1 rfl (lv_room hcat) hd ⟨hcl, hsl⟩) hS (fun q _ hq => hFc q hq) hFc (fun u2 t H1 locs1 ht hvm hw hB hz1 hk1 hS1 => ?_)
  exact kk u.1 u.2 hw h H1 locs1 ls (by rw [← ht]; exact hB) hS1 hl
theorem o_iret (C : CX G dd cc nL own) {x : Int} {u : Int × GM} (hQ : gQI G (some .int) u) (hd : decode cc pc = .ok (.ireturn, 1)) (h : some (x, μ) = some u) (hx2 : r32 x) (hμ : gRg μ) : WM G nL μ pc lv [vI x] := by
  obtain ⟨p, l, e, R, s, m, args, below, meth, c, Q, D, ad, cT, A, cl, sl⟩ := G
  obtain ⟨hx, hb, hml, hown, hts, hlk, hK, hJ, hAd, hA, hSF, hfr, hlo, hcl, hsl⟩ := C
  intro H locs ls hP hS hl
  cases h
  obtain ⟨hr, rfl⟩ := hQ
  exact W.iret hx hb hr (fun t ht hW => ⟨⟨_, (), rfl, ⟨rfl, hx2, hμ⟩, by show va_P _ _ _ t.heap; rw [ht]; exact hP⟩, hS.F ht⟩) hS.2.2 hd hlk
theorem W.zretB {p : Program} {l : Launch} {e : Env} {R : Room} {s : State} {m : MethodId} {args : Array Value} {below : List Frame} {meth : Method} {c : Code} {H : Heap} {locs : List Loc} {cells slots : Nat} {cc : ByteArray} {Qc : Array Value → State → Outcome → State → Prop} {free : Addr → Prop} {v : Int32} (hexec : p.tables.exec = Jvm.exec) (hb : c.code = cc) (hr : meth.sig.returnType = some .boolean)
    (hq : ∀ t : State, t.heap = H → s.WarmedH t.vm → Qc args s (.returned (some (.int (v &&& 1)))) t) (hf : ∀ q ∈ locs, free q.base)
    {pc : Nat} {ls : Array Slot} (hdg : decode cc pc = .ok (.ireturn, 1)) (hlocks : meth.locks = false) : W p l e R s m args below meth c H locs cells slots (MQ below Qc args s cells slots free) (F0 m pc ls [.int v]) := by
  intro T hT X
  obtain ⟨fs, hret, hrun, hended, hW, hframe⟩ := X.leave (v := some (.int (v &&& 1))) (hlocks := hlocks) (fun h => by rw [hr] at h; cases h)
  have hmeth' : T.vm.method? m = some meth := X.method'
  refine ⟨T.setFrames fs, ?_, .returned (some (.int (v &&& 1))), hrun, hended, hq _ hT hW, locs, ⟨⟨_, rfl⟩, hW, hframe⟩, hf⟩
  jvm_step X.here [X.here.top, hexec, hb, hdg, hmeth', hr, narrow]
  (try refine ⟨rfl, ?_⟩); (try refine ⟨rfl, ?_⟩)
  first | (intro acts; rw [hret _ acts rfl rfl rfl]) | rw [hret _ _ rfl rfl rfl]
  exact Steps.refl _
theorem o_zret (C : CX G dd cc nL own) {x : Int} {u : Int × GM} (hQ : gQI G (some .boolean) u) (hd : decode cc pc = .ok (.ireturn, 1)) (h : some (x % 2, μ) = some u) (hμ : gRg μ) : WM G nL μ pc lv [vI x] := by
  obtain ⟨p, l, e, R, s, m, args, below, meth, c, Q, D, ad, cT, A, cl, sl⟩ := G
  obtain ⟨hx, hb, hml, hown, hts, hlk, hK, hJ, hAd, hA, hSF, hfr, hlo, hcl, hsl⟩ := C
  intro H locs ls hP hS hl
  cases h
  obtain ⟨hr, rfl⟩ := hQ
  exact W.zretB hx hb hr (fun t ht hW => ⟨⟨_, (), rfl, ⟨a32_and1 x, r32_b1 x, hμ⟩, by show va_P _ _ _ t.heap; rw [ht]; exact hP⟩, hS.F ht⟩) hS.2.2 hd hlk
theorem o_lret (C : CX G dd cc nL own) {x : Int} {u : Int × GM} (hQ : gQL G (some .long) u) (hd : decode cc pc = .ok (.lreturn, 1)) (h : some (x, μ) = some u) (hx2 : r64 x) (hμ : gRg μ) : WM G nL μ pc lv [vJ x] := by
  obtain ⟨p, l, e, R, s, m, args, below, meth, c, Q, D, ad, cT, A, cl, sl⟩ := G
  obtain ⟨hx, hb, hml, hown, hts, hlk, hK, hJ, hAd, hA, hSF, hfr, hlo, hcl, hsl⟩ := C
  intro H locs ls hP hS hl
  cases h
  obtain ⟨hr, rfl⟩ := hQ
  exact W.lret hx hb hr (fun t ht hW => ⟨⟨_, (), rfl, ⟨rfl, hx2, hμ⟩, by show va_P _ _ _ t.heap; rw [ht]; exact hP⟩, hS.F ht⟩) hS.2.2 hd hlk
theorem o_vret (C : CX G dd cc nL own) {u : Int × GM} (hQ : gQV G none u) (hd : decode cc pc = .ok (.return_, 1)) (h : some ((0 : Int), μ) = some u) (hμ : gRg μ) : WM G nL μ pc lv [] := by
  obtain ⟨p, l, e, R, s, m, args, below, meth, c, Q, D, ad, cT, A, cl, sl⟩ := G
  obtain ⟨hx, hb, hml, hown, hts, hlk, hK, hJ, hAd, hA, hSF, hfr, hlo, hcl, hsl⟩ := C
  intro H locs ls hP hS hl
  cases h
  obtain ⟨hr, rfl⟩ := hQ
  exact W.vret hx hb hr (fun t ht hW => ⟨⟨(), rfl, hμ, by show va_P _ _ _ t.heap; rw [ht]; exact hP⟩, hS.F ht⟩) hS.2.2 hd hlk
def gCopy (μ : GM) (k0 : Nat) (sp : Int) (k1 : Nat) (dp n : Int) : GM := (fun k i => if k = k1 ∧ dp ≤ i ∧ i < dp + n then μ.1 k0 (sp + (i - dp)) else μ.1 k i, μ.2)
theorem o_copyi (C : CX G dd cc nL own) {α : Type} {f : GM → Option α} {u : α} {k0 k1 n0 n1 idx : Nat} {sp dp n : Int} (hk0 : gKT[k0]? = some (0, n0, 0, [])) (hk1 : gKT[k1]? = some (0, n1, 0, [])) (h1 : r32 sp) (h2 : r32 dp) (h3 : r32 n) (hμ : gRg μ) (hlnk : Cond.methodLink own idx arraycopyName ∈ gT) (hnat : Cond.native arraycopyName ∈ gT) (hsta : Cond.static arraycopyName ∈ gT) (hini : Cond.initialized "java/lang/System" ∈ gT) (hdd : 1 ≤ dd) (hcat : (st.map fun v => v.category).sum = 0) (hd : decode cc pc = .ok (.invokestatic idx, 3))
   (h : ck (0 ≤ sp ∧ 0 ≤ dp ∧ 0 ≤ n ∧ sp + n ≤ n0 ∧ dp + n ≤ n1) (lm (gCopy μ k0 sp k1 dp n) f) = some u) (kk : ∀ μ2, gRg μ2 → f μ2 = some u → WM G nL μ2 (pc + 3) lv st) : WM G nL μ pc lv (vI n :: vI dp :: gR G k1 :: vI sp :: gR G k0 :: st) := by
  obtain ⟨p, l, e, R, s, m, args, below, meth, c, Q, D, ad, cT, A, cl, sl⟩ := G
  obtain ⟨hx, hb, hml, hown, hts, hlk, hK, hJ, hAd, hA, hSF, hfr, hlo, hcl, hsl⟩ := C
  intro H locs ls hP hS hl
  obtain ⟨⟨g1, g2, g3, g4, g5⟩, h⟩ := ck_some h
  have hf0 : ∀ {x : Int}, r32 x → 0 ≤ x → ¬ Int32.ofInt x < 0 := fun hx2 h0 q => by
    have := (lt32 hx2 r32_0).mp q
    omega
  refine va_copyi hx hb (by rw [hml]; exact hl.1.symm) hown (hts _ hlnk) (hts _ hnat) (hts _ hsta) (hts _ hini) hK hP (gD_of hJ hAd) hS k0 k1 0 0 (gWs_at ad cT μ hk0) (gWs_at ad cT μ hk1) rfl rfl rfl (hf0 h1 g1) (hf0 h2 g2) (hf0 h3 g3) (by rw [g_clamp h1, g_clamp h3]; show _ ≤ n0; omega) (by rw [g_clamp h2, g_clamp h3]; show _ ≤ n1; omega) (fun i hi => rfl) (by omega) (by rw [hcat]; show 0 + (nativeFrameWords "java/lang/System" "arraycopy" 5 + 11) ≤ R.locals; have := g_nfw; omega) hd (fun H1 locs1 hP1 hD1 hS1 => ?_)
  rw [gWs_set ad cT μ (gCopy μ k0 sp k1 dp n) hk1 (fun k2 h2 => by funext i2; exact if_neg (fun z => h2 z.1)) (fun k2 h2 => rfl) ?_] at hP1
  · refine kk (gCopy μ k0 sp k1 dp n) ⟨fun k i => ?_, hμ.2⟩ h H1 locs1 ls hP1 hS1 hl
    show gRA k (if _ then _ else _)
    split
    · exact gRA.of32 _ (hμ.i hk0 (by decide) _)
    · exact hμ.1 k i
  · refine congrArg (fun z => Sum.inl (cT 0, n1, Sum.inl z)) (funext fun j => ?_)
    show va_cpy _ _ _ _ _ j = Int32.ofInt (if _ then _ else _)
    unfold va_cpy
    rw [g_clamp h1, g_clamp h2, g_clamp h3]
    by_cases hj : dp.toNat ≤ j ∧ j < dp.toNat + n.toNat
    · rw [if_pos hj, if_pos ⟨rfl, by omega, by omega⟩]
      exact congrArg (fun z => Int32.ofInt (μ.1 k0 z)) (by omega)
    · rw [if_neg hj, if_neg (fun z => hj (by omega))]
end GC