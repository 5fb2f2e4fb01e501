/-! contracts over worlds as lists; calls of constructors and of Arrays.fill in them -/
theorem g_aoa_spec {B : Array Value} {s : State} {t : FieldType} (h : (Cond.arrayOver (.array t)).before B s = true) : ∃ comp c k, s.vm.findClass (FieldType.array t).toString = some comp ∧ (s.vm.classes.findIdx? fun (x : Class) => match x.kind with | .array component _ => component == comp | _ => false) = some c ∧ s.vm.classes[c]? = some k ∧ k.kind = .array comp (.array t) ∧ s.vm.findClass ("[" ++ (FieldType.array t).toString) = some c := by
  simp only [Cond.before, Cond.holds, Cond.value, beq_iff_eq] at h
  cases hc : s.vm.findClass (FieldType.array t).toString with
  | none => simp [hc] at h
  | some comp =>
    simp only [hc, Option.bind_some, Option.bind_eq_some_iff, Option.map_eq_some_iff] at h
    obtain ⟨c, hi, k, hk, hb⟩ := h
    obtain ⟨hlt, hp, -⟩ := Array.findIdx?_eq_some_iff_getElem.mp hi
    have hkk : s.vm.classes[c] = k := (Array.getElem?_eq_some_iff.mp hk).2
    rw [hkk] at hp
    cases hkind : k.kind with
    | array component ty =>
      rw [hkind] at hb hp
      simp at hb hp
      exact ⟨comp, c, k, rfl, hi, hk, by rw [hkind, hp, hb.1], hb.2⟩
    | _ => rw [hkind] at hb; simp at hb
theorem va_AOA.moved {t : FieldType} {u U : State} (hvm : u.vm.Alike U.vm) (h : va_AOA t u) : va_AOA t U := by
  obtain ⟨comp, c, k, h1, h2, h3, h4, h5⟩ := g_aoa_spec h
  obtain ⟨k', hk', he⟩ := hvm.2.2 _ _ h3
  have hi : (U.vm.classes.findIdx? fun (x : Class) => match x.kind with | .array component _ => component == comp | _ => false) = some c := by
    have e3 : U.vm.bare = u.vm.bare := by first | exact hvm.bare_eq | exact hvm.bare_eq.symm
    exact (va_idx_bare U.vm comp).symm.trans ((congrArg (fun v : Vm => v.classes.findIdx? fun (x : Class) => match x.kind with | .array component _ => component == comp | _ => false) e3).trans ((va_idx_bare u.vm comp).trans h2))
  have hkind : k'.kind = .array comp (.array t) := by rw [he]; exact h4
  have f1 : U.vm.findClass (FieldType.array t).toString = some comp := by rw [hvm.findClass]; exact h1
  have f2 : U.vm.findClass ("[" ++ (FieldType.array t).toString) = some c := by rw [hvm.findClass]; exact h5
  unfold va_AOA Cond.before Cond.holds
  simp only [Cond.value]
  rw [f1, Option.bind_some]
  refine (congrArg (fun o : Option Nat => (o.bind (fun c => (U.vm.classes[c]?).map fun (k : Class) => match k.kind with | .array _ ty => decide (ty = FieldType.array t) && decide (U.vm.findClass ("[" ++ (FieldType.array t).toString) = some c) | _ => false) == some true)) hi).trans ?_
  simp [hk', hkind, f2]
def gCPre (D : va_G) (cT : Nat → ClassId) (ws : va_W) (U : State) : Prop := va_P D vwCl ws U.heap ∧ va_K D vwCl (gTy cT) U ∧ gNst U ∧ va_AOA .int U ∧ va_AOA .long U ∧ va_D (fun _ => True) ws
theorem gCPre.blind {D : va_G} {cT : Nat → ClassId} {ws : va_W} {sz : Nat} {av : List Value} : FrameBlind (va_Pc av (fun U => U.heap.size = sz ∧ gCPre D cT ws U)) := by
  intro a U g mk q
  obtain ⟨q0, q1, qP, qK, qN, qO1, qO2, qD⟩ := q
  exact ⟨q0, q1, qP, va_K.moved (u := U) (U := U.calling g mk a) (Vm.Alike.refl U.vm) qK, gNst.same (s := U) (U := U.calling g mk a) rfl qN, va_AOA.moved (u := U) (U := U.calling g mk a) (Vm.Alike.refl U.vm) qO1, va_AOA.moved (u := U) (U := U.calling g mk a) (Vm.Alike.refl U.vm) qO2, qD⟩
def gQuC (D : va_G) (cT : Nat → ClassId) (A : Nat → Prop) (ext : (Nat → Nat) → Prop) (wf : (Nat → Nat) → (Nat → ClassId) → va_W) : Array Value → State → Outcome → State → Prop := va_Qv ext (fun ad t => va_P D vwCl (wf ad cT) t.heap ∧ va_D A (wf ad cT)) A
def Cw (d mc ms : Nat) (y : MethodName) (cy : ByteArray) (nLy : Nat) (av : List Value) (ws : (Nat → ClassId) → va_W) (ext : (Nat → Nat) → Prop) (wf : (Nat → Nat) → (Nat → ClassId) → va_W) : Prop :=
  ∀ (l : Launch) (D : va_G) (cT : Nat → ClassId) (sz : Nat), Met l y (.code y cy nLy none :: gW) { frames := d, cells := mc, slots := ms, locals := 39 * d } (va_Pc av (fun U => U.heap.size = sz ∧ gCPre D cT (ws cT) U)) (gQuC D cT (va_A (ws cT) sz) ext wf) mc ms (va_A (ws cT) sz)
def gQC (G : GX) (mc ms : Nat) (ext : (Nat → Nat) → Prop) (wf : (Nat → Nat) → (Nat → ClassId) → va_W) : Prop := match G with
  | (p, l, e, R, s, m, args, below, meth, c, Q, D, ad, cT, A, cl, sl) => meth.sig.returnType = none ∧ Q = MQ below (gQuC D cT A ext wf) args s mc ms A
def gNm (G : GX) (n : String) : Prop := match G with
  | (p, l, e, R, s, m, args, below, meth, c, Q, D, ad, cT, A, cl, sl) => meth.name = n
theorem Cw.of {d mc ms : Nat} {y : MethodName} {cy : ByteArray} {nLy : Nat} {av : List Value} {ws : (Nat → ClassId) → va_W} {ext : (Nat → Nat) → Prop} {wf : (Nat → Nat) → (Nat → ClassId) → va_W} (hy : plainFor y = true) (hlen : (lg_sl av).length ≤ nLy) (body : ∀ G : GX, CK G d cy nLy y.cls mc ms → gNm G y.name → gQC G mc ms ext wf → WK G nLy (ws (gcT G)) 0 0 0 (lv_args 0 av) []) : Cw d mc ms y cy nLy av ws ext wf := by
  intro l D cT sz
  refine Met.ofWF (cc := cy) (maxL := nLy) (ret := none) hy rfl ?_
  intro p e s m args below meth c s₁ B hml hv
  obtain ⟨rfl, hsz, hP, hK, hN, hO1, hO2, hD⟩ := hv
  have hts := atoms_spec (ws := .code y cy nLy none :: gW) B.pre
  have hown : s.vm.findClass y.cls = some m.cls := findClass_of_methodNamed B.named
  have hin : meth.name = y.name := (name_of_methodNamed B.named B.method).1
  subst hsz
  rw [lg_entry_eq]
  exact body (p, l, e, (headSpec (.code y cy nLy none :: gW) { frames := d, cells := mc, slots := ms, locals := 39 * d }).room, s, m, _, below, meth, c, _, D, fun _ => 0, cT, va_A (ws cT) s.heap.size, 0, 0)
    ⟨B.exec, B.bytes, hml, hown, gNst.all (fun w hw => hts w (List.mem_cons_of_mem _ hw)) hN, B.notSynchronized, hK, fun q h => Or.inr h, hO1, hO2, Nat.le_refl _, Nat.le_refl _, Nat.le_refl _, Nat.le_refl _⟩ hin ⟨B.returns, rfl⟩ s.heap [] _ hP hD.self va_S.rf (lv_entry av hlen)
theorem va_D_left {A : Nat → Prop} {w1 w2 : va_W} (h : va_D A (w1 ++ w2)) : va_D A w1 := by
  have key : ∀ (i : Nat) (q : Nat × va_E), w1[i]? = some q → (w1 ++ w2)[i]? = some q := fun i q hq => by
    rw [List.getElem?_append_left (List.getElem?_eq_some_iff.mp hq).1]; exact hq
  exact ⟨fun i j x y hi hj he => h.1 i j x y (key i x hi) (key j y hj) he, fun k q hk => h.2 k q (key k q hk)⟩
theorem g_join {A : Nat → Prop} {D : va_G} {cl : List vw_C} {w0 w1 : va_W} {x : Nat × va_E} {H H1 : Heap} (hP : va_P D cl (w0 ++ [x]) H) (hD : va_D A (w0 ++ [x])) (hk : ∀ q : Nat, q < H.size → ¬ va_A [x] H.size q → H1[q]? = H[q]?) (hF : ∀ q, va_A [x] H.size q → A q) (hP1 : va_P D cl w1 H1) (hD1 : va_D (va_A [x] H.size) w1) : va_P D cl (w0 ++ w1) H1 ∧ va_D A (w0 ++ w1) := by
  have apart : ∀ (i : Nat) (q : Nat × va_E), w0[i]? = some q → q.1 < H.size ∧ ¬ va_A [x] H.size q.1 := by
    intro i q hq
    have hi : i < w0.length := (List.getElem?_eq_some_iff.mp hq).1
    have hq2 : (w0 ++ [x])[i]? = some q := by rw [List.getElem?_append_left hi]; exact hq
    have hl := (hP i q hq2).lt
    refine ⟨hl, fun h => ?_⟩
    rcases h with ⟨k2, e2, h2⟩ | h2
    · have hk2 : k2 < 1 := (List.getElem?_eq_some_iff.mp h2).1
      rw [show k2 = 0 by omega] at h2
      have e3 : x = (q.1, e2) := Option.some.inj h2
      have h3 : (w0 ++ [x])[w0.length]? = some (q.1, e2) := by rw [List.getElem?_append_right (Nat.le_refl _), Nat.sub_self, e3]; rfl
      have := hD.1 i w0.length q (q.1, e2) hq2 h3 rfl
      omega
    · omega
  refine ⟨va_P.app (fun i q hq => ?_) hP1, va_D.app (va_D_left hD) (hD1.weaken (fun k q _ h => hF q.1 h)) (fun i j u v hu hv huv => ?_)⟩
  · have hi : i < w0.length := (List.getElem?_eq_some_iff.mp hq).1
    have hq2 : (w0 ++ [x])[i]? = some q := by rw [List.getElem?_append_left hi]; exact hq
    obtain ⟨g1, g2⟩ := apart i q hq
    exact (hP i q hq2).kept (hk q.1 g1 g2)
  · exact (apart i u hu).2 (by rw [huv]; exact hD1.2 j v hv)
theorem g_joinS {A : Nat → Prop} {D : va_G} {cl : List vw_C} {ws : va_W} {i0 a : Nat} {e0 e1 : va_E} {H H1 : Heap} (hP : va_P D cl ws H) (hD : va_D A ws) (hi : ws[i0]? = some (a, e0)) (hk : ∀ q : Nat, q < H.size → ¬ va_A [(a, e0)] H.size q → H1[q]? = H[q]?) (hP1 : va_P D cl [(a, e1)] H1) : va_P D cl (ws.set i0 (a, e1)) H1 := by
  have hl := (List.getElem?_eq_some_iff.mp hi).1
  intro k q hq
  by_cases hkp : k = i0
  · subst hkp
    rw [List.getElem?_set_self hl] at hq
    cases hq
    exact hP1 0 _ rfl
  · rw [List.getElem?_set_ne (Ne.symm hkp)] at hq
    refine (hP k q hq).kept (hk q.1 (hP k q hq).lt (fun h => ?_))
    rcases h with ⟨k2, e2, h2⟩ | h2
    · have hk2 : k2 < 1 := (List.getElem?_eq_some_iff.mp h2).1
      rw [show k2 = 0 by omega] at h2
      have e3 : a = q.1 := congrArg Prod.fst (Option.some.inj h2)
      exact hkp (hD.1 k i0 q (a, e0) hq hi e3.symm)
    · have := (hP k q hq).lt
      omega
section GK2
variable {G : GX} {dd : Nat} {cc : ByteArray} {nL : Nat} {own : String} {mc ms c1 s1 : Nat} {ws : va_W} {pc : Nat} {lv : List (Nat × Value)} {st stk : List Value}
theorem n_cI (C : CK G dd cc nL own mc ms) {d m1 s2 : Nat} {y : MethodName} {cy : ByteArray} {nLy n idx h0 : Nat} {e0 : va_E} {ext : (Nat → Nat) → Prop} {wf : (Nat → Nat) → (Nat → ClassId) → va_W} {w0 : va_W} {ws2 : (Nat → Nat) → va_W} (As : List Value) (hm : MB y cy nLy none n) (hyi : y.name = "<init>") (hin : Cond.instanceMethod y ∈ gT) (hlnk : Cond.methodLink own idx y ∈ gT) (hdd : d + 1 ≤ dd) (hM : Cw d m1 s2 y cy nLy (Value.ref h0 :: As) (fun _ => [(h0, e0)]) ext wf) (hn : As.length = n) (hcat : (st.map fun v => v.category).sum ≤ 8) (hws : ws = w0 ++ [(h0, e0)]) (hst : stk = As.reverse ++ Value.ref h0 :: st) (h1 : c1 + m1 ≤ mc) (h2 : s1 + s2 ≤ ms) (hd : decode cc pc = .ok (.invokespecial idx, 3)) (hw : ∀ ad, w0 ++ wf ad (gcT G) = ws2 ad) (k : ∀ ad, ext ad → WK G nL (ws2 ad) (c1 + m1) (s1 + s2) (pc + 3) lv st) : WK G nL ws c1 s1 pc lv stk := by
  obtain ⟨p, l, e, R, s, m, args, below, meth, c, Q, D, ad, cT, A, cl, sl⟩ := G
  obtain ⟨hx, hb, hml, hown, hts, hlk, hK, hA, hO1, hO2, hfr, hlo, hcl, hsl⟩ := C
  intro H locs ls hP hD hS hl
  subst hws
  subst hst
  have hM1 := hM l D cT H.size
  have hPc : va_P D vwCl [(h0, e0)] H := va_P_mem hP (fun x hx2 => List.mem_append_right _ hx2)
  have hAh : A h0 := hD.2 w0.length (h0, e0) (by rw [List.getElem?_append_right (Nat.le_refl _), Nat.sub_self]; rfl)
  have hFc : ∀ q, va_A [(h0, e0)] H.size q → A q := by
    intro q hq
    rcases hq with ⟨k2, e2, h2⟩ | h2
    · have hk2 : k2 < 1 := (List.getElem?_eq_some_iff.mp h2).1
      rw [show k2 = 0 by omega] at h2
      have e3 : h0 = q := congrArg Prod.fst (Option.some.inj h2)
      rw [← e3]; exact hAh
    · exact hA q (Nat.le_trans hS.1 h2)
  have hDs : va_D (fun _ => True) [(h0, e0)] := ⟨fun i j u v hi hj _ => by
    have h1 : i < 1 := (List.getElem?_eq_some_iff.mp hi).1
    have h2 : j < 1 := (List.getElem?_eq_some_iff.mp hj).1
    omega, fun _ _ _ => trivial⟩
  have pre : ∀ U : State, U.heap = H → s.WarmedH U.vm → gCPre D cT [(h0, e0)] U := fun U hU hW => ⟨by rw [hU]; exact hPc, va_K.moved hW.alike hK, (gNst.of hts).warm hW, hO1.moved hW.alike, hO2.moved hW.alike, hDs⟩
  refine va_callv (va_runI (As := As) (rest := st) ⟨hx, hb, hml, hown, hts⟩ hM1 ⟨callB_of n hts (gGI hm.1) rfl rfl rfl (hts _ hm.2.1) (hts _ hlnk) hm.2.2.1 ⟨by show d + 1 ≤ R.frames; omega, by show 8 + (nLy + 11) + 39 * d ≤ R.locals; have := hm.2.2.2; omega⟩, hyi, hts _ hin⟩ ⟨gCPre.blind, fun U hU hW => ⟨rfl, by rw [hU], pre U hU hW⟩⟩ rfl hn hl.1 rfl (lv_room hcat) hd ⟨by omega, by omega⟩) hS (fun q _ hq => hFc q hq) hFc (fun ad2 t H1 locs1 ht hvm hw2 hB hz1 hk1 hS1 => ?_)
  obtain ⟨hP1, hD1⟩ := hB
  rw [ht] at hP1
  obtain ⟨hP2, hD2⟩ := g_join hP hD hk1 hFc hP1 hD1
  have hw3 := hw ad2
  exact k ad2 hw2 H1 locs1 ls (by rw [← hw3]; exact hP2) (by rw [← hw3]; exact hD2) hS1 hl
theorem n_cN (C : CK G dd cc nL own mc ms) {d m1 s2 : Nat} {y : MethodName} {cy : ByteArray} {nLy n idx h0 : Nat} {e0 : va_E} {ext : (Nat → Nat) → Prop} {wf : (Nat → Nat) → (Nat → ClassId) → va_W} {w0 : va_W} {ws2 : (Nat → Nat) → va_W} (As : List Value) (hm : MB y cy nLy none n) (hyi : y.name = "<init>") (hin : Cond.instanceMethod y ∈ gT) {host : String} (hlnk : Cond.methodLinkNest own idx y host ∈ gT) (hdd : d + 1 ≤ dd) (hM : Cw d m1 s2 y cy nLy (Value.ref h0 :: As) (fun _ => [(h0, e0)]) ext wf) (hn : As.length = n) (hcat : (st.map fun v => v.category).sum ≤ 8) (hws : ws = w0 ++ [(h0, e0)]) (hst : stk = As.reverse ++ Value.ref h0 :: st) (h1 : c1 + m1 ≤ mc) (h2 : s1 + s2 ≤ ms) (hd : decode cc pc = .ok (.invokespecial idx, 3)) (hw : ∀ ad, w0 ++ wf ad (gcT G) = ws2 ad) (k : ∀ ad, ext ad → WK G nL (ws2 ad) (c1 + m1) (s1 + s2) (pc + 3) lv st) : WK G nL ws c1 s1 pc lv stk := by
  obtain ⟨p, l, e, R, s, m, args, below, meth, c, Q, D, ad, cT, A, cl, sl⟩ := G
  obtain ⟨hx, hb, hml, hown, hts, hlk, hK, hA, hO1, hO2, hfr, hlo, hcl, hsl⟩ := C
  intro H locs ls hP hD hS hl
  subst hws
  subst hst
  have hM1 := hM l D cT H.size
  have hPc : va_P D vwCl [(h0, e0)] H := va_P_mem hP (fun x hx2 => List.mem_append_right _ hx2)
  have hAh : A h0 := hD.2 w0.length (h0, e0) (by rw [List.getElem?_append_right (Nat.le_refl _), Nat.sub_self]; rfl)
  have hFc : ∀ q, va_A [(h0, e0)] H.size q → A q := by
    intro q hq
    rcases hq with ⟨k2, e2, h2⟩ | h2
    · have hk2 : k2 < 1 := (List.getElem?_eq_some_iff.mp h2).1
      rw [show k2 = 0 by omega] at h2
      have e3 : h0 = q := congrArg Prod.fst (Option.some.inj h2)
      rw [← e3]; exact hAh
    · exact hA q (Nat.le_trans hS.1 h2)
  have hDs : va_D (fun _ => True) [(h0, e0)] := ⟨fun i j u v hi hj _ => by
    have h1 : i < 1 := (List.getElem?_eq_some_iff.mp hi).1
    have h2 : j < 1 := (List.getElem?_eq_some_iff.mp hj).1
    omega, fun _ _ _ => trivial⟩
  have pre : ∀ U : State, U.heap = H → s.WarmedH U.vm → gCPre D cT [(h0, e0)] U := fun U hU hW => ⟨by rw [hU]; exact hPc, va_K.moved hW.alike hK, (gNst.of hts).warm hW, hO1.moved hW.alike, hO2.moved hW.alike, hDs⟩
  refine va_callv (va_runIN (host := host) (As := As) (rest := st) ⟨hx, hb, hml, hown, hts⟩ hM1 ⟨va_cnB n hts (gGI hm.1) rfl rfl rfl (va_Nw.of rfl (hts _ hlnk)) (hts _ hm.2.1) hm.2.2.1 ⟨by show d + 1 ≤ R.frames; omega, by show 8 + (nLy + 11) + 39 * d ≤ R.locals; have := hm.2.2.2; omega⟩, hyi, hts _ hin⟩ ⟨gCPre.blind, fun U hU hW => ⟨rfl, by rw [hU], pre U hU hW⟩⟩ rfl hn hl.1 rfl (lv_room hcat) hd ⟨by omega, by omega⟩) hS (fun q _ hq => hFc q hq) hFc (fun ad2 t H1 locs1 ht hvm hw2 hB hz1 hk1 hS1 => ?_)
  obtain ⟨hP1, hD1⟩ := hB
  rw [ht] at hP1
  obtain ⟨hP2, hD2⟩ := g_join hP hD hk1 hFc hP1 hD1
  have hw3 := hw ad2
  exact k ad2 hw2 H1 locs1 ls (by rw [← hw3]; exact hP2) (by rw [← hw3]; exact hD2) hS1 hl
theorem n_fill (C : CK G dd cc nL own mc ms) {i0 a N idx : Nat} {f : Nat → Int32} {v : Int} {ws2 : va_W} (hM : Cw 0 0 0 yJ7_fill_53178 cJ7_fill_53178 4 [Value.ref a, vI v] (fun cT => [(a, .inl (cT 0, N, .inl f))]) (fun _ => True) (fun _ cT => [(a, .inl (cT 0, N, .inl fun _ => Int32.ofInt v))])) (hlnk : Cond.methodLink own idx yJ7_fill_53178 ∈ gT) (hdd : 1 ≤ dd) (hcat : (st.map fun v => v.category).sum ≤ 8) (h0 : ws[i0]? = some (a, .inl (gcT G 0, N, .inl f))) (h1 : c1 ≤ mc) (h2 : s1 ≤ ms) (hd : decode cc pc = .ok (.invokestatic idx, 3)) (hw : ws.set i0 (a, .inl (gcT G 0, N, .inl fun _ => Int32.ofInt v)) = ws2) (k : WK G nL ws2 c1 s1 (pc + 3) lv st) : WK G nL ws c1 s1 pc lv (vI v :: Value.ref a :: st) := by
  obtain ⟨p, l, e, R, s, m, args, below, meth, c, Q, D, ad, cT, A, cl, sl⟩ := G
  obtain ⟨hx, hb, hml, hown, hts, hlk, hK, hA, hO1, hO2, hfr, hlo, hcl, hsl⟩ := C
  intro H locs ls hP hD hS hl
  subst hw
  have hM1 := hM l D cT H.size
  have hm := mb_J7_fill_53178
  have hPc : va_P D vwCl [(a, .inl (cT 0, N, .inl f))] H := va_P_mem hP (fun x hx2 => by
    rcases List.mem_singleton.mp hx2 with rfl
    exact List.mem_of_getElem? h0)
  have hAh : A a := hD.2 i0 _ h0
  have hFc : ∀ q, va_A [(a, .inl (cT 0, N, .inl f))] H.size q → A q := by
    intro q hq
    rcases hq with ⟨k2, e2, h2⟩ | h2
    · have hk2 : k2 < 1 := (List.getElem?_eq_some_iff.mp h2).1
      rw [show k2 = 0 by omega] at h2
      have e3 : a = q := congrArg Prod.fst (Option.some.inj h2)
      rw [← e3]; exact hAh
    · exact hA q (Nat.le_trans hS.1 h2)
  have hDs : va_D (fun _ => True) [(a, (.inl (cT 0, N, .inl f) : va_E))] := ⟨fun i j u v hi hj _ => by
    have h1 : i < 1 := (List.getElem?_eq_some_iff.mp hi).1
    have h2 : j < 1 := (List.getElem?_eq_some_iff.mp hj).1
    omega, fun _ _ _ => trivial⟩
  have pre : ∀ U : State, U.heap = H → s.WarmedH U.vm → gCPre D cT [(a, .inl (cT 0, N, .inl f))] U := fun U hU hW => ⟨by rw [hU]; exact hPc, va_K.moved hW.alike hK, (gNst.of hts).warm hW, hO1.moved hW.alike, hO2.moved hW.alike, hDs⟩
  refine va_callv (va_runS (As := [Value.ref a, vI v]) (rest := st) ⟨hx, hb, hml, hown, hts⟩ hM1 ⟨callB_of 2 hts (gGI hm.1) rfl rfl rfl (hts _ hm.2.1) (hts _ hlnk) hm.2.2.1 ⟨by show 0 + 1 ≤ R.frames; omega, by show 8 + (4 + 11) + 39 * 0 ≤ R.locals; omega⟩, hts _ ms_J7_fill_53178⟩ ⟨gCPre.blind, fun U hU hW => ⟨rfl, by rw [hU], pre U hU hW⟩⟩ rfl rfl hl.1 rfl (lv_room hcat) hd ⟨by omega, by omega⟩) hS (fun q _ hq => hFc q hq) hFc (fun ad2 t H1 locs1 ht hvm hw2 hB hz1 hk1 hS1 => ?_)
  obtain ⟨hP1, hD1⟩ := hB
  rw [ht] at hP1
  exact k H1 locs1 ls (g_joinS hP hD h0 hk1 hP1) (hD.set h0) hS1 hl
theorem n_max (C : CK G dd cc nL own mc ms) {x y : Int} {idx : Nat} (hx2 : r32 x) (hy2 : r32 y) (hlnk : Cond.methodLink own idx yJ9_max_7cf53 ∈ gT) (hdd : 1 ≤ dd) (hcat : (st.map fun v => v.category).sum ≤ 8) (h1 : c1 ≤ mc) (h2 : s1 ≤ ms) (hd : decode cc pc = .ok (.invokestatic idx, 3)) (k : WK G nL ws c1 s1 (pc + 3) lv (vI (if x < y then y else x) :: st)) : WK G nL ws c1 s1 pc lv (vI y :: vI x :: st) := by
  obtain ⟨p, l, e, R, s, m, args, below, meth, c, Q, D, ad, cT, A, cl, sl⟩ := G
  obtain ⟨hx, hb, hml, hown, hts, hlk, hK, hA, hO1, hO2, hfr, hlo, hcl, hsl⟩ := C
  intro H locs ls hP hD hS hl
  have hm := mb_J9_max_7cf53
  refine va_mmax hx hb (by rw [hml]; exact hl.1.symm) hown (show (Cond.methodLink own idx Lib.Math.max.name).before args s = true from hts _ hlnk) (show (Cond.static Lib.Math.max.name).before args s = true from hts _ ms_J9_max_7cf53) (hts _ hm.2.1) (show (Cond.code Lib.Math.max.name Lib.Math.max.code 2 (some .int)).before args s = true from hts _ hm.1) (by omega) (by omega) (by omega) (by omega) hd ?_
  have e1 : (if Int32.ofInt x < Int32.ofInt y then Int32.ofInt y else Int32.ofInt x) = Int32.ofInt (if x < y then y else x) := by
    by_cases hq : x < y
    · rw [if_pos hq, if_pos ((lt32 hx2 hy2).mpr hq)]
    · rw [if_neg hq, if_neg (fun z => hq ((lt32 hx2 hy2).mp z))]
  rw [e1]
  exact k H locs ls hP hD hS hl
theorem n_vret (C : CK G dd cc nL own mc ms) {ext : (Nat → Nat) → Prop} {wf : (Nat → Nat) → (Nat → ClassId) → va_W} (hQ : gQC G mc ms ext wf) (ad2 : Nat → Nat) (he : ext ad2) (hw : ws = wf ad2 (gcT G)) (h1 : c1 ≤ mc) (h2 : s1 ≤ ms) (hd : decode cc pc = .ok (.return_, 1)) : WK G nL ws c1 s1 pc lv [] := by
  obtain ⟨p, l, e, R, s, m, args, below, meth, c, Q, D, ad, cT, A, cl, sl⟩ := G
  obtain ⟨hx, hb, hml, hown, hts, hlk, hK, hA, hO1, hO2, hfr, hlo, hcl, hsl⟩ := C
  intro H locs ls hP hD hS hl
  obtain ⟨hr, rfl⟩ := hQ
  subst hw
  refine W.widen (k := mc) (n := ms) h1 h2 ?_
  exact W.vret hx hb hr (fun t ht hW => ⟨⟨ad2, rfl, he, by show va_P _ _ _ t.heap; rw [ht]; exact hP, hD⟩, hS.F ht⟩) hS.2.2 hd hlk
end GK2