/-! THE CLAIM OUT OF ONE WALK OF THE LAW'S BODY. Your part is whole_start (and what it stands on); all else here is the same for every law, but numbers. -/
def R_law : String := "GroundWatersLaw"
def lw_P (b : Addr) (xs : List Int32) (args : Array Value) (s : State) : Prop := args = #[.ref b] ∧ s.IntsAt b xs ∧ xs.length ≤ 2560 ∧ (Jvm.Cond.and given_1 narrow_1).before args s = true
def lw_Q (_ : Array Value) (s : State) (o : Outcome) (t : State) : Prop := o = .returned (some (.int 1)) ∧ Framed s o t [] 600000 7302250
def lw_Z (below : List Frame) (a : Array Value) (s : State) : State → Prop := fun t => ∃ o, t.status = .running ∧ Ended t below o ∧ lw_Q a s o t
/-- the law's own end, with 1 on the stack, nothing written that was there before, its room as the claim has it -/
theorem lw_ret {p : Program} {l : Launch} {e : Env} {s : State} {m : MethodId} {below : List Frame} {meth : Method} {c : Code} {b : Nat} (hx : p.tables.exec = Jvm.exec) (hb : c.code = code) (hr : meth.sig.returnType = ret) (hlocks : meth.locks = false) {pc : Nat} {H : Heap} {ls : Array Slot} (hdg : decode code pc = .ok (.ireturn, 1)) : W p l e room_1 s m #[Value.ref b] below meth c H [] 600000 7302250 (lw_Z below #[Value.ref b] s) (F0 m pc ls [.int 1]) := by
  intro T hT X
  obtain ⟨fs, hret, hrun, hended, hW, hframe⟩ := X.leave (v := some (.int 1)) (hlocks := hlocks) (fun h => by rw [hr] at h; cases h)
  have hmeth' : T.vm.method? m = some meth := X.method'
  refine ⟨T.setFrames fs, ?_, .returned (some (.int 1)), hrun, hended, rfl, ⟨_, rfl⟩, hW, hframe⟩
  jvm_step X.here [X.here.top, hx, hb, hdg, hmeth', hr, ret, narrow_b1]
  (try refine ⟨rfl, ?_⟩); (try refine ⟨rfl, ?_⟩)
  first | (intro acts; rw [hret _ acts rfl rfl rfl]) | rw [hret _ _ rfl rfl rfl]
  exact Steps.refl _
/-- what holds at the law's entry: the machine, the code, the tables' words (any of lw_tbl by 'hts w (by decide +kernel)'), the script of L ints xs at the cell b, what the Statement gives of the start (any of its parts by flat_of_before) -/
def lw_At (p : Program) (s : State) (m : MethodId) (meth : Method) (c : Code) (b L : Nat) (xs : Nat → Int32) : Prop :=
  p.tables.exec = Jvm.exec ∧ c.code = code ∧ meth.sig.returnType = ret ∧ c.maxLocals = 4 ∧ s.vm.findClass R_law = some m.cls ∧ (∀ w ∈ lw_tbl, w.before #[Value.ref b] s = true) ∧ va_X b L xs s s.heap ∧ b < s.heap.size ∧ meth.locks = false ∧ (Jvm.Cond.and given_1 narrow_1).before #[Value.ref b] s = true

/-! the law's own rows: its script, its end -/
def SX (G : GX) (L : Nat) (xs : Nat → Int) : Prop := match G with
  | (p, l, e, R, s, m, args, below, meth, c, Q, D, ad, cT, A, cl, sl) => va_X (ad 999) L (fun j => Int32.ofInt (xs j)) s s.heap ∧ ad 999 < s.heap.size ∧ ¬ A (ad 999)
def gQLw (G : GX) (u : Int × GM) : Prop := match G with
  | (p, l, e, R, s, m, args, below, meth, c, Q, D, ad, cT, A, cl, sl) => meth.sig.returnType = ret ∧ R = room_1 ∧ args = #[Value.ref (ad 999)] ∧ Q = lw_Z below args s ∧ cl = 600000 ∧ sl = 7302250 ∧ (A = fun q => s.heap.size ≤ q) ∧ u.1 = 1
section GL
variable {G : GX} {dd : Nat} {cc : ByteArray} {nL : Nat} {own : String} {μ : GM} {pc : Nat} {lv : List (Nat × Value)} {st : List Value}
theorem o_slen (C : CX G dd cc nL own) {L : Nat} {xs : Nat → Int} (hX : SX G L xs) (hd : decode cc pc = .ok (.arraylength, 1)) (k : WM G nL μ (pc + 1) lv (vI (L : Int) :: st)) : WM G nL μ pc lv (gR G 999 :: st) := by
  obtain ⟨p, l, e, R, s, m, args, below, meth, c, Q, D, ad, cT, A, cl, sl⟩ := G
  obtain ⟨hx, hb, hml, hown, hts, hlk, hK, hJ, hAd, hA, hSF, hfr, hlo, hcl, hsl⟩ := C
  intro H locs ls hP hS hl
  have h1 := k H locs ls hP hS hl
  refine va_slen hx hb hX.1 hX.2.1 hX.2.2 hS hd ?_
  rw [← Int32.ofInt_eq_ofNat]
  exact h1
theorem o_sld (C : CX G dd cc nL own) {L : Nat} {xs : Nat → Int} (hX : SX G L xs) {α : Type} {X : Option α} {u : α} {i : Int} (hi : r32 i) (hd : decode cc pc = .ok (.iaload, 1)) (h : ck (0 ≤ i ∧ i < (L : Int)) X = some u) (k : X = some u → WM G nL μ (pc + 1) lv (vI (xs (Int.toNat i)) :: st)) : WM G nL μ pc lv (vI i :: gR G 999 :: st) := by
  obtain ⟨p, l, e, R, s, m, args, below, meth, c, Q, D, ad, cT, A, cl, sl⟩ := G
  obtain ⟨hx, hb, hml, hown, hts, hlk, hK, hJ, hAd, hA, hSF, hfr, hlo, hcl, hsl⟩ := C
  intro H locs ls hP hS hl
  obtain ⟨h0, h⟩ := ck_some h
  refine va_sld hx hb hX.1 hX.2.1 hX.2.2 hS (vp_in_of_ck hi h0) hd ?_
  rw [g_clamp hi]
  exact k h H locs ls hP hS hl
theorem o_lawret (C : CX G dd code nL own) {x : Int} {u : Int × GM} (hQ : gQLw G u) (hx1 : x = 0 ∨ x = 1) (hd : decode code pc = .ok (.ireturn, 1)) (h : some (x % 2, μ) = some u) : WM G nL μ pc lv [vI x] := by
  obtain ⟨p, l, e, R, s, m, args, below, meth, c, Q, D, ad, cT, A, cl, sl⟩ := G
  obtain ⟨hx, hb, hml, hown, hts, hlk, hK, hJ, hAd, hA, hSF, hfr, hlo, hcl, hsl⟩ := C
  intro H locs ls hP hS hl
  obtain ⟨hr, rfl, rfl, rfl, rfl, rfl, rfl, hu⟩ := hQ
  cases h
  rcases hx1 with rfl | rfl
  · cases hu
  · refine va_forget (fun q hq => ?_) ?_
    · exact hS.2.2 q hq
    · exact lw_ret hx hb hr hlk hd
end GL
