/-! Arrays.fill in small worlds; then the constructors, one by one -/
theorem vp_cell_eqI (cA : ClassId) (N : Nat) (f g : Nat → Int32) (h : ∀ j, j < N → f j = g j) : vp_cell cA (N, .inl f) = vp_cell cA (N, .inl g) := by
  rw [vp_cell_i, vp_cell_i]
  unfold arrV
  have : (fun j : Fin N => Value.int (f j.val)) = fun j : Fin N => Value.int (g j.val) := funext fun j => by rw [h j.val j.isLt]
  rw [this]
theorem WK.cellAt {G : GX} {nL : Nat} {ws ws2 : va_W} {c1 s1 pc : Nat} {lv : List (Nat × Value)} {st : List Value} {i0 a : Nat} {e0 e1 : va_E} (h0 : ws[i0]? = some (a, e0)) (he : ∀ (D : va_G) (H : Heap), va_at D vwCl (a, e0) H → va_at D vwCl (a, e1) H) (hw : ws.set i0 (a, e1) = ws2) (k : WK G nL ws2 c1 s1 pc lv st) : WK G nL ws c1 s1 pc lv st := by
  subst hw
  obtain ⟨p, l, e, R, s, m, args, below, meth, c, Q, D, ad, cT, A, cl, sl⟩ := G
  intro H locs ls hP hD hS hl
  refine k H locs ls (fun k2 q hq => ?_) (hD.set h0) hS hl
  have hl0 := (List.getElem?_eq_some_iff.mp h0).1
  by_cases hk : k2 = i0
  · subst hk
    rw [List.getElem?_set_self hl0] at hq
    cases hq
    exact he D H (hP k2 _ h0)
  · rw [List.getElem?_set_ne (Ne.symm hk)] at hq
    exact hP k2 q hq
theorem WK.sub {G : GX} {nL : Nat} {ws : va_W} {c1 s1 pc : Nat} {lv lv' : List (Nat × Value)} {st : List Value} (ks : List Nat) (hl : lv_pick lv ks = lv') (k : WK G nL ws c1 s1 pc lv' st) : WK G nL ws c1 s1 pc lv st := by
  obtain ⟨p, l, e, R, s, m, args, below, meth, c, Q, D, ad, cT, A, cl, sl⟩ := G
  exact fun H locs ls hP hD hS h => k H locs ls hP hD hS (lv_sub h ks hl)
set_option maxHeartbeats 4000000 in
theorem wk_fill {G : GX} {a N : Nat} {v : Int} (hv : r32 v) (hN : N ≤ 300) (C : CK G 0 cJ7_fill_53178 4 RJ7 0 0) (hQ : gQC G 0 0 (fun _ => True) (fun _ cT => [(a, .inl (cT 0, N, .inl fun _ => Int32.ofInt v))])) : ∀ (n i : Nat), i + n = N → ∀ f : Nat → Int32, (∀ j, j < i → f j = Int32.ofInt v) → WK G 4 [(a, .inl (gcT G 0, N, .inl f))] 0 0 5 [(2, vI (i : Int)), (0, Value.ref a), (1, vI v), (3, vI (N : Int))] [] := by
  have hrN : r32 (N : Int) := ⟨by omega, by omega⟩
  intro n
  induction n with
  | zero =>
    intro i hi f hf
    have hri : r32 (i : Int) := ⟨by omega, by omega⟩
    refine n_iload_n C 0 dJ7_fill_53178_5 rfl rfl ?_
    refine n_iload_n C 3 dJ7_fill_53178_6 rfl rfl ?_
    refine n_icmp_ge (tgt := 20) C hri hrN dJ7_fill_53178_7 (by decide) (fun q => ?_) (fun q => absurd q (by omega))
    refine WK.cellAt (i0 := 0) (e1 := .inl (gcT G 0, N, .inl fun _ => Int32.ofInt v)) rfl (fun D H h => ?_) rfl ?_
    · show H[a]? = some (vp_cell _ (N, .inl fun _ => Int32.ofInt v))
      rw [← vp_cell_eqI (gcT G 0) N f (fun _ => Int32.ofInt v) (fun j hj => hf j (by omega))]
      exact h
    · exact n_vret C hQ (fun _ => 0) trivial rfl (Nat.le_refl _) (Nat.le_refl _) dJ7_fill_53178_20
  | succ n ih =>
    intro i hi f hf
    have hri : r32 (i : Int) := ⟨by omega, by omega⟩
    refine n_iload_n C 0 dJ7_fill_53178_5 rfl rfl ?_
    refine n_iload_n C 3 dJ7_fill_53178_6 rfl rfl ?_
    refine n_icmp_ge (tgt := 20) C hri hrN dJ7_fill_53178_7 (by decide) (fun q => absurd (show (i : Int) < (N : Int) by omega) q) (fun q => ?_)
    refine n_aload_n C 1 dJ7_fill_53178_10 rfl rfl ?_
    refine n_iload_n C 0 dJ7_fill_53178_11 rfl rfl ?_
    refine n_iload_n C 2 dJ7_fill_53178_12 rfl rfl ?_
    refine n_iast (i0 := 0) C rfl hri ⟨by omega, q⟩ dJ7_fill_53178_13 rfl ?_
    refine n_iinc (lv2 := [(2, vI (w32 ((i : Int) + 1))), (0, Value.ref a), (1, vI v), (3, vI (N : Int))]) C 0 dJ7_fill_53178_14 rfl (by decide) rfl ?_
    refine n_goto (tgt := 5) C dJ7_fill_53178_17 (by decide) ?_
    have e1 : w32 ((i : Int) + 1) = ((i + 1 : Nat) : Int) := w32_id ⟨by omega, by omega⟩
    rw [e1]
    refine ih (i + 1) (by omega) _ (fun j hj => ?_)
    show (if j = (i : Int).toNat then Int32.ofInt v else f j) = _
    by_cases hji : j = (i : Int).toNat
    · rw [if_pos hji]
    · rw [if_neg hji]
      exact hf j (by omega)
theorem ct_fill {a N : Nat} {v : Int} (hv : r32 v) (hN : N ≤ 300) (f : Nat → Int32) : Cw 0 0 0 yJ7_fill_53178 cJ7_fill_53178 4 [Value.ref a, vI v] (fun cT => [(a, .inl (cT 0, N, .inl f))]) (fun _ => True) (fun _ cT => [(a, .inl (cT 0, N, .inl fun _ => Int32.ofInt v))]) := by
  refine Cw.of pf_J7_fill_53178 (Nat.le_of_ble_eq_true rfl) (fun G C hn hQ => ?_)
  show WK G 4 [(a, .inl (gcT G 0, N, .inl f))] 0 0 0 [(0, Value.ref a), (1, vI v)] []
  refine n_iconst C dJ7_fill_53178_0 ?_
  refine n_istore_n (lv2 := [(2, vI 0), (0, Value.ref a), (1, vI v)]) C dJ7_fill_53178_1 rfl (by decide) rfl ?_
  refine n_aload_n C 1 dJ7_fill_53178_2 rfl rfl ?_
  refine n_alen (i0 := 0) C rfl dJ7_fill_53178_3 ?_
  refine n_istore_n (lv2 := [(3, vI (N : Int)), (2, vI 0), (0, Value.ref a), (1, vI v)]) C dJ7_fill_53178_4 rfl (by decide) rfl ?_
  exact WK.sub [1, 2, 3, 0] rfl (wk_fill hv hN C hQ N 0 (by omega) f (fun j hj => absurd hj (by omega)))
def refsOf (e : Nat × Nat × Nat × List (Nat × Nat)) : List Nat := match e.1 with
  | 0 => []
  | 1 => []
  | 2 => []
  | 3 => (List.range e.2.1).map (fun i => e.2.2.1 + i)
  | 4 => (List.range e.2.1).map (fun i => e.2.2.1 + i)
  | _ => (e.2.2.2.filter (fun q => !(q.1 == 0) && !(q.1 == 1) && !(q.1 == 2))).map (fun q => q.2)
theorem gWl_congr {R S : List Nat} {a b : Nat → Nat} {cT : Nat → ClassId} {μ : GM} (h : ∀ k ∈ S, a k = b k) (hS : R.all (fun k => S.contains k && (refsOf (gE k)).all (fun t => S.contains t)) = true) : gWl R a cT μ = gWl R b cT μ := by
  unfold gWl
  refine List.map_congr_left (fun k hk => ?_)
  have h1 := List.all_eq_true.mp hS k hk
  simp only [Bool.and_eq_true, List.all_eq_true, List.contains_iff_mem] at h1
  obtain ⟨h2, h3⟩ := h1
  rw [h k h2]
  congr 1
  generalize gE k = e at h3
  obtain ⟨t, n, bb, fl⟩ := e
  unfold gCell
  unfold refsOf at h3
  dsimp only at h3 ⊢
  split
  · rfl
  · rfl
  · rfl
  · refine congrArg (fun z => Sum.inl (cT 3, n, Sum.inr (Sum.inr (Sum.inr (Sum.inr z))))) (funext fun i => ?_)
    by_cases hi : i < n
    · rw [if_pos hi, if_pos hi, h _ (h3 _ (List.mem_map.mpr ⟨i, List.mem_range.mpr hi, rfl⟩))]
    · rw [if_neg hi, if_neg hi]
  · refine congrArg (fun z => Sum.inl (cT 4, n, Sum.inr (Sum.inr (Sum.inr (Sum.inr z))))) (funext fun i => ?_)
    by_cases hi : i < n
    · rw [if_pos hi, if_pos hi, h _ (h3 _ (List.mem_map.mpr ⟨i, List.mem_range.mpr hi, rfl⟩))]
    · rw [if_neg hi, if_neg hi]
  · rename_i h0 h1 h2 h4 h5
    refine congrArg (fun z => Sum.inr (n, z)) ?_
    unfold gFs
    apply List.ext_getElem?
    intro j
    rw [List.getElem?_mapIdx, List.getElem?_mapIdx]
    cases hj : fl[j]? with
    | none => rfl
    | some q =>
      rw [Option.map_some, Option.map_some]
      refine congrArg some ?_
      unfold gV
      split
      · rfl
      · rfl
      · rfl
      · rename_i g0 g1 g2
        refine congrArg Value.ref (h _ (h3 _ ?_))
        split
        · exact absurd rfl h0
        · exact absurd rfl h1
        · exact absurd rfl h2
        · exact absurd rfl h4
        · exact absurd rfl h5
        · refine List.mem_map.mpr ⟨q, List.mem_filter.mpr ⟨List.mem_of_getElem? hj, ?_⟩, rfl⟩
          simp only [Bool.and_eq_true, Bool.not_eq_true', beq_eq_false_iff_ne, ne_eq]
          exact ⟨⟨fun z => g0 z, fun z => g1 z⟩, fun z => g2 z⟩
theorem gWl_app (R S : List Nat) (a : Nat → Nat) (cT : Nat → ClassId) (μ : GM) : gWl (R ++ S) a cT μ = gWl R a cT μ ++ gWl S a cT μ := List.map_append
theorem gWl_cons (k : Nat) (S : List Nat) (a : Nat → Nat) (cT : Nat → ClassId) (μ : GM) : gWl (k :: S) a cT μ = (a k, gCell a cT μ k (gE k)) :: gWl S a cT μ := rfl

