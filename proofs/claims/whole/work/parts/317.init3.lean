theorem n_arrIc {G : GX} {dd : Nat} {cc : ByteArray} {nL : Nat} {own : String} {mc ms c1 s1 : Nat} {pc : Nat} {lv : List (Nat × Value)} (C : CK G dd cc nL own mc ms) {a j ci idx N : Nat} {n0 : Int} {fs : List Value} {tl : va_W} {Cn : String} {T : u_T} {NN : Nat} {ty0 : Nat → FieldType} (pl : Nat) (hpl : lv[pl]? = some (0, Value.ref a)) (hc : vwCl[ci]? = some (Cn, T, NN)) (hty : ∀ k, k < NN → parseFieldDescriptor (T k).2.2.1 = some (ty0 k)) (hnm : ∀ a, a < NN → ∀ b, b < NN → a ≠ b → (T a).2.1 ≠ (T b).2.1) (hj2 : j < NN) (hl2 : Cond.fieldLink own idx (T j).1 (T j).2.1 (T j).2.2.1 ∈ gT) (hfin : (T j).2.2.2 = true) (hini : gIni G) (hdec : (T j).1 = own) (ht : ty0 j = .array .int) (hjl : j < fs.length) (hv : n0 = (N : Int)) (hN2 : N ≤ 300) (h1 : c1 + 1 ≤ mc) (h2 : s1 + N ≤ ms) (hd0 : decode cc pc = .ok (.aload_n 0, 1)) (hd1 : decode cc (pc + 1) = .ok (.iconst n0, 1)) (hd2 : decode cc (pc + 1 + 1) = .ok (.newarray .int, 2)) (hd3 : decode cc (pc + 1 + 1 + 2) = .ok (.putfield idx, 3)) (k : ∀ q, WK G nL ((a, .inr (ci, fs.set j (Value.ref q))) :: (tl ++ [(q, .inl (gcT G 0, N, .inl fun _ => 0))])) (c1 + 1) (s1 + N) (pc + 1 + 1 + 2 + 3) lv []) : WK G nL ((a, .inr (ci, fs)) :: tl) c1 s1 pc lv [] := by
  refine n_aload_n C pl hd0 rfl hpl ?_
  subst hv
  refine n_iconst C hd1 ?_
  refine n_newI (N := N) (ws2 := fun q => (a, .inr (ci, fs)) :: (tl ++ [(q, .inl (gcT G 0, N, .inl fun _ => 0))])) C rfl hN2 ac_int h1 h2 hd2 (fun q => rfl) (fun q => ?_)
  exact n_putF (j := j) (fs2 := fs.set j (Value.ref q)) C hc hty hnm hj2 hl2 hfin hini hdec ht rfl rfl hjl hd3 rfl (k q)
theorem n_arrIb {G : GX} {dd : Nat} {cc : ByteArray} {nL : Nat} {own : String} {mc ms c1 s1 : Nat} {pc : Nat} {lv : List (Nat × Value)} (C : CK G dd cc nL own mc ms) {a j ci idx N : Nat} {n0 : Int} {fs : List Value} {tl : va_W} {Cn : String} {T : u_T} {NN : Nat} {ty0 : Nat → FieldType} (pl : Nat) (hpl : lv[pl]? = some (0, Value.ref a)) (hc : vwCl[ci]? = some (Cn, T, NN)) (hty : ∀ k, k < NN → parseFieldDescriptor (T k).2.2.1 = some (ty0 k)) (hnm : ∀ a, a < NN → ∀ b, b < NN → a ≠ b → (T a).2.1 ≠ (T b).2.1) (hj2 : j < NN) (hl2 : Cond.fieldLink own idx (T j).1 (T j).2.1 (T j).2.2.1 ∈ gT) (hfin : (T j).2.2.2 = true) (hini : gIni G) (hdec : (T j).1 = own) (ht : ty0 j = .array .int) (hjl : j < fs.length) (hv : (Int8.ofInt n0).toInt32 = Int32.ofInt (N : Int)) (hN2 : N ≤ 300) (h1 : c1 + 1 ≤ mc) (h2 : s1 + N ≤ ms) (hd0 : decode cc pc = .ok (.aload_n 0, 1)) (hd1 : decode cc (pc + 1) = .ok (.bipush n0, 2)) (hd2 : decode cc (pc + 1 + 2) = .ok (.newarray .int, 2)) (hd3 : decode cc (pc + 1 + 2 + 2) = .ok (.putfield idx, 3)) (k : ∀ q, WK G nL ((a, .inr (ci, fs.set j (Value.ref q))) :: (tl ++ [(q, .inl (gcT G 0, N, .inl fun _ => 0))])) (c1 + 1) (s1 + N) (pc + 1 + 2 + 2 + 3) lv []) : WK G nL ((a, .inr (ci, fs)) :: tl) c1 s1 pc lv [] := by
  refine n_aload_n C pl hd0 rfl hpl ?_
  refine n_bipush (v := (N : Int)) C hd1 hv ?_
  refine n_newI (N := N) (ws2 := fun q => (a, .inr (ci, fs)) :: (tl ++ [(q, .inl (gcT G 0, N, .inl fun _ => 0))])) C rfl hN2 ac_int h1 h2 hd2 (fun q => rfl) (fun q => ?_)
  exact n_putF (j := j) (fs2 := fs.set j (Value.ref q)) C hc hty hnm hj2 hl2 hfin hini hdec ht rfl rfl hjl hd3 rfl (k q)
theorem n_arrIs {G : GX} {dd : Nat} {cc : ByteArray} {nL : Nat} {own : String} {mc ms c1 s1 : Nat} {pc : Nat} {lv : List (Nat × Value)} (C : CK G dd cc nL own mc ms) {a j ci idx N : Nat} {n0 : Int} {fs : List Value} {tl : va_W} {Cn : String} {T : u_T} {NN : Nat} {ty0 : Nat → FieldType} (pl : Nat) (hpl : lv[pl]? = some (0, Value.ref a)) (hc : vwCl[ci]? = some (Cn, T, NN)) (hty : ∀ k, k < NN → parseFieldDescriptor (T k).2.2.1 = some (ty0 k)) (hnm : ∀ a, a < NN → ∀ b, b < NN → a ≠ b → (T a).2.1 ≠ (T b).2.1) (hj2 : j < NN) (hl2 : Cond.fieldLink own idx (T j).1 (T j).2.1 (T j).2.2.1 ∈ gT) (hfin : (T j).2.2.2 = true) (hini : gIni G) (hdec : (T j).1 = own) (ht : ty0 j = .array .int) (hjl : j < fs.length) (hv : (Int16.ofInt n0).toInt32 = Int32.ofInt (N : Int)) (hN2 : N ≤ 300) (h1 : c1 + 1 ≤ mc) (h2 : s1 + N ≤ ms) (hd0 : decode cc pc = .ok (.aload_n 0, 1)) (hd1 : decode cc (pc + 1) = .ok (.sipush n0, 3)) (hd2 : decode cc (pc + 1 + 3) = .ok (.newarray .int, 2)) (hd3 : decode cc (pc + 1 + 3 + 2) = .ok (.putfield idx, 3)) (k : ∀ q, WK G nL ((a, .inr (ci, fs.set j (Value.ref q))) :: (tl ++ [(q, .inl (gcT G 0, N, .inl fun _ => 0))])) (c1 + 1) (s1 + N) (pc + 1 + 3 + 2 + 3) lv []) : WK G nL ((a, .inr (ci, fs)) :: tl) c1 s1 pc lv [] := by
  refine n_aload_n C pl hd0 rfl hpl ?_
  refine n_sipush (v := (N : Int)) C hd1 hv ?_
  refine n_newI (N := N) (ws2 := fun q => (a, .inr (ci, fs)) :: (tl ++ [(q, .inl (gcT G 0, N, .inl fun _ => 0))])) C rfl hN2 ac_int h1 h2 hd2 (fun q => rfl) (fun q => ?_)
  exact n_putF (j := j) (fs2 := fs.set j (Value.ref q)) C hc hty hnm hj2 hl2 hfin hini hdec ht rfl rfl hjl hd3 rfl (k q)
theorem n_arrZc {G : GX} {dd : Nat} {cc : ByteArray} {nL : Nat} {own : String} {mc ms c1 s1 : Nat} {pc : Nat} {lv : List (Nat × Value)} (C : CK G dd cc nL own mc ms) {a j ci idx N : Nat} {n0 : Int} {fs : List Value} {tl : va_W} {Cn : String} {T : u_T} {NN : Nat} {ty0 : Nat → FieldType} (pl : Nat) (hpl : lv[pl]? = some (0, Value.ref a)) (hc : vwCl[ci]? = some (Cn, T, NN)) (hty : ∀ k, k < NN → parseFieldDescriptor (T k).2.2.1 = some (ty0 k)) (hnm : ∀ a, a < NN → ∀ b, b < NN → a ≠ b → (T a).2.1 ≠ (T b).2.1) (hj2 : j < NN) (hl2 : Cond.fieldLink own idx (T j).1 (T j).2.1 (T j).2.2.1 ∈ gT) (hfin : (T j).2.2.2 = true) (hini : gIni G) (hdec : (T j).1 = own) (ht : ty0 j = .array .boolean) (hjl : j < fs.length) (hv : n0 = (N : Int)) (hN2 : N ≤ 300) (h1 : c1 + 1 ≤ mc) (h2 : s1 + N ≤ ms) (hd0 : decode cc pc = .ok (.aload_n 0, 1)) (hd1 : decode cc (pc + 1) = .ok (.iconst n0, 1)) (hd2 : decode cc (pc + 1 + 1) = .ok (.newarray .boolean, 2)) (hd3 : decode cc (pc + 1 + 1 + 2) = .ok (.putfield idx, 3)) (k : ∀ q, WK G nL ((a, .inr (ci, fs.set j (Value.ref q))) :: (tl ++ [(q, .inl (gcT G 1, N, .inl fun _ => 0))])) (c1 + 1) (s1 + N) (pc + 1 + 1 + 2 + 3) lv []) : WK G nL ((a, .inr (ci, fs)) :: tl) c1 s1 pc lv [] := by
  refine n_aload_n C pl hd0 rfl hpl ?_
  subst hv
  refine n_iconst C hd1 ?_
  refine n_newZ (N := N) (ws2 := fun q => (a, .inr (ci, fs)) :: (tl ++ [(q, .inl (gcT G 1, N, .inl fun _ => 0))])) C rfl hN2 ac_boolean h1 h2 hd2 (fun q => rfl) (fun q => ?_)
  exact n_putF (j := j) (fs2 := fs.set j (Value.ref q)) C hc hty hnm hj2 hl2 hfin hini hdec ht rfl rfl hjl hd3 rfl (k q)
theorem n_arrZb {G : GX} {dd : Nat} {cc : ByteArray} {nL : Nat} {own : String} {mc ms c1 s1 : Nat} {pc : Nat} {lv : List (Nat × Value)} (C : CK G dd cc nL own mc ms) {a j ci idx N : Nat} {n0 : Int} {fs : List Value} {tl : va_W} {Cn : String} {T : u_T} {NN : Nat} {ty0 : Nat → FieldType} (pl : Nat) (hpl : lv[pl]? = some (0, Value.ref a)) (hc : vwCl[ci]? = some (Cn, T, NN)) (hty : ∀ k, k < NN → parseFieldDescriptor (T k).2.2.1 = some (ty0 k)) (hnm : ∀ a, a < NN → ∀ b, b < NN → a ≠ b → (T a).2.1 ≠ (T b).2.1) (hj2 : j < NN) (hl2 : Cond.fieldLink own idx (T j).1 (T j).2.1 (T j).2.2.1 ∈ gT) (hfin : (T j).2.2.2 = true) (hini : gIni G) (hdec : (T j).1 = own) (ht : ty0 j = .array .boolean) (hjl : j < fs.length) (hv : (Int8.ofInt n0).toInt32 = Int32.ofInt (N : Int)) (hN2 : N ≤ 300) (h1 : c1 + 1 ≤ mc) (h2 : s1 + N ≤ ms) (hd0 : decode cc pc = .ok (.aload_n 0, 1)) (hd1 : decode cc (pc + 1) = .ok (.bipush n0, 2)) (hd2 : decode cc (pc + 1 + 2) = .ok (.newarray .boolean, 2)) (hd3 : decode cc (pc + 1 + 2 + 2) = .ok (.putfield idx, 3)) (k : ∀ q, WK G nL ((a, .inr (ci, fs.set j (Value.ref q))) :: (tl ++ [(q, .inl (gcT G 1, N, .inl fun _ => 0))])) (c1 + 1) (s1 + N) (pc + 1 + 2 + 2 + 3) lv []) : WK G nL ((a, .inr (ci, fs)) :: tl) c1 s1 pc lv [] := by
  refine n_aload_n C pl hd0 rfl hpl ?_
  refine n_bipush (v := (N : Int)) C hd1 hv ?_
  refine n_newZ (N := N) (ws2 := fun q => (a, .inr (ci, fs)) :: (tl ++ [(q, .inl (gcT G 1, N, .inl fun _ => 0))])) C rfl hN2 ac_boolean h1 h2 hd2 (fun q => rfl) (fun q => ?_)
  exact n_putF (j := j) (fs2 := fs.set j (Value.ref q)) C hc hty hnm hj2 hl2 hfin hini hdec ht rfl rfl hjl hd3 rfl (k q)
theorem n_arrZs {G : GX} {dd : Nat} {cc : ByteArray} {nL : Nat} {own : String} {mc ms c1 s1 : Nat} {pc : Nat} {lv : List (Nat × Value)} (C : CK G dd cc nL own mc ms) {a j ci idx N : Nat} {n0 : Int} {fs : List Value} {tl : va_W} {Cn : String} {T : u_T} {NN : Nat} {ty0 : Nat → FieldType} (pl : Nat) (hpl : lv[pl]? = some (0, Value.ref a)) (hc : vwCl[ci]? = some (Cn, T, NN)) (hty : ∀ k, k < NN → parseFieldDescriptor (T k).2.2.1 = some (ty0 k)) (hnm : ∀ a, a < NN → ∀ b, b < NN → a ≠ b → (T a).2.1 ≠ (T b).2.1) (hj2 : j < NN) (hl2 : Cond.fieldLink own idx (T j).1 (T j).2.1 (T j).2.2.1 ∈ gT) (hfin : (T j).2.2.2 = true) (hini : gIni G) (hdec : (T j).1 = own) (ht : ty0 j = .array .boolean) (hjl : j < fs.length) (hv : (Int16.ofInt n0).toInt32 = Int32.ofInt (N : Int)) (hN2 : N ≤ 300) (h1 : c1 + 1 ≤ mc) (h2 : s1 + N ≤ ms) (hd0 : decode cc pc = .ok (.aload_n 0, 1)) (hd1 : decode cc (pc + 1) = .ok (.sipush n0, 3)) (hd2 : decode cc (pc + 1 + 3) = .ok (.newarray .boolean, 2)) (hd3 : decode cc (pc + 1 + 3 + 2) = .ok (.putfield idx, 3)) (k : ∀ q, WK G nL ((a, .inr (ci, fs.set j (Value.ref q))) :: (tl ++ [(q, .inl (gcT G 1, N, .inl fun _ => 0))])) (c1 + 1) (s1 + N) (pc + 1 + 3 + 2 + 3) lv []) : WK G nL ((a, .inr (ci, fs)) :: tl) c1 s1 pc lv [] := by
  refine n_aload_n C pl hd0 rfl hpl ?_
  refine n_sipush (v := (N : Int)) C hd1 hv ?_
  refine n_newZ (N := N) (ws2 := fun q => (a, .inr (ci, fs)) :: (tl ++ [(q, .inl (gcT G 1, N, .inl fun _ => 0))])) C rfl hN2 ac_boolean h1 h2 hd2 (fun q => rfl) (fun q => ?_)
  exact n_putF (j := j) (fs2 := fs.set j (Value.ref q)) C hc hty hnm hj2 hl2 hfin hini hdec ht rfl rfl hjl hd3 rfl (k q)
theorem n_arrJc {G : GX} {dd : Nat} {cc : ByteArray} {nL : Nat} {own : String} {mc ms c1 s1 : Nat} {pc : Nat} {lv : List (Nat × Value)} (C : CK G dd cc nL own mc ms) {a j ci idx N : Nat} {n0 : Int} {fs : List Value} {tl : va_W} {Cn : String} {T : u_T} {NN : Nat} {ty0 : Nat → FieldType} (pl : Nat) (hpl : lv[pl]? = some (0, Value.ref a)) (hc : vwCl[ci]? = some (Cn, T, NN)) (hty : ∀ k, k < NN → parseFieldDescriptor (T k).2.2.1 = some (ty0 k)) (hnm : ∀ a, a < NN → ∀ b, b < NN → a ≠ b → (T a).2.1 ≠ (T b).2.1) (hj2 : j < NN) (hl2 : Cond.fieldLink own idx (T j).1 (T j).2.1 (T j).2.2.1 ∈ gT) (hfin : (T j).2.2.2 = true) (hini : gIni G) (hdec : (T j).1 = own) (ht : ty0 j = .array .long) (hjl : j < fs.length) (hv : n0 = (N : Int)) (hN2 : N ≤ 300) (h1 : c1 + 1 ≤ mc) (h2 : s1 + N ≤ ms) (hd0 : decode cc pc = .ok (.aload_n 0, 1)) (hd1 : decode cc (pc + 1) = .ok (.iconst n0, 1)) (hd2 : decode cc (pc + 1 + 1) = .ok (.newarray .long, 2)) (hd3 : decode cc (pc + 1 + 1 + 2) = .ok (.putfield idx, 3)) (k : ∀ q, WK G nL ((a, .inr (ci, fs.set j (Value.ref q))) :: (tl ++ [(q, .inl (gcT G 2, N, .inr (.inl fun _ => 0)))])) (c1 + 1) (s1 + N) (pc + 1 + 1 + 2 + 3) lv []) : WK G nL ((a, .inr (ci, fs)) :: tl) c1 s1 pc lv [] := by
  refine n_aload_n C pl hd0 rfl hpl ?_
  subst hv
  refine n_iconst C hd1 ?_
  refine n_newJ (N := N) (ws2 := fun q => (a, .inr (ci, fs)) :: (tl ++ [(q, .inl (gcT G 2, N, .inr (.inl fun _ => 0)))])) C rfl hN2 ac_long h1 h2 hd2 (fun q => rfl) (fun q => ?_)
  exact n_putF (j := j) (fs2 := fs.set j (Value.ref q)) C hc hty hnm hj2 hl2 hfin hini hdec ht rfl rfl hjl hd3 rfl (k q)
theorem n_arrJb {G : GX} {dd : Nat} {cc : ByteArray} {nL : Nat} {own : String} {mc ms c1 s1 : Nat} {pc : Nat} {lv : List (Nat × Value)} (C : CK G dd cc nL own mc ms) {a j ci idx N : Nat} {n0 : Int} {fs : List Value} {tl : va_W} {Cn : String} {T : u_T} {NN : Nat} {ty0 : Nat → FieldType} (pl : Nat) (hpl : lv[pl]? = some (0, Value.ref a)) (hc : vwCl[ci]? = some (Cn, T, NN)) (hty : ∀ k, k < NN → parseFieldDescriptor (T k).2.2.1 = some (ty0 k)) (hnm : ∀ a, a < NN → ∀ b, b < NN → a ≠ b → (T a).2.1 ≠ (T b).2.1) (hj2 : j < NN) (hl2 : Cond.fieldLink own idx (T j).1 (T j).2.1 (T j).2.2.1 ∈ gT) (hfin : (T j).2.2.2 = true) (hini : gIni G) (hdec : (T j).1 = own) (ht : ty0 j = .array .long) (hjl : j < fs.length) (hv : (Int8.ofInt n0).toInt32 = Int32.ofInt (N : Int)) (hN2 : N ≤ 300) (h1 : c1 + 1 ≤ mc) (h2 : s1 + N ≤ ms) (hd0 : decode cc pc = .ok (.aload_n 0, 1)) (hd1 : decode cc (pc + 1) = .ok (.bipush n0, 2)) (hd2 : decode cc (pc + 1 + 2) = .ok (.newarray .long, 2)) (hd3 : decode cc (pc + 1 + 2 + 2) = .ok (.putfield idx, 3)) (k : ∀ q, WK G nL ((a, .inr (ci, fs.set j (Value.ref q))) :: (tl ++ [(q, .inl (gcT G 2, N, .inr (.inl fun _ => 0)))])) (c1 + 1) (s1 + N) (pc + 1 + 2 + 2 + 3) lv []) : WK G nL ((a, .inr (ci, fs)) :: tl) c1 s1 pc lv [] := by
  refine n_aload_n C pl hd0 rfl hpl ?_
  refine n_bipush (v := (N : Int)) C hd1 hv ?_
  refine n_newJ (N := N) (ws2 := fun q => (a, .inr (ci, fs)) :: (tl ++ [(q, .inl (gcT G 2, N, .inr (.inl fun _ => 0)))])) C rfl hN2 ac_long h1 h2 hd2 (fun q => rfl) (fun q => ?_)
  exact n_putF (j := j) (fs2 := fs.set j (Value.ref q)) C hc hty hnm hj2 hl2 hfin hini hdec ht rfl rfl hjl hd3 rfl (k q)
theorem n_arrJs {G : GX} {dd : Nat} {cc : ByteArray} {nL : Nat} {own : String} {mc ms c1 s1 : Nat} {pc : Nat} {lv : List (Nat × Value)} (C : CK G dd cc nL own mc ms) {a j ci idx N : Nat} {n0 : Int} {fs : List Value} {tl : va_W} {Cn : String} {T : u_T} {NN : Nat} {ty0 : Nat → FieldType} (pl : Nat) (hpl : lv[pl]? = some (0, Value.ref a)) (hc : vwCl[ci]? = some (Cn, T, NN)) (hty : ∀ k, k < NN → parseFieldDescriptor (T k).2.2.1 = some (ty0 k)) (hnm : ∀ a, a < NN → ∀ b, b < NN → a ≠ b → (T a).2.1 ≠ (T b).2.1) (hj2 : j < NN) (hl2 : Cond.fieldLink own idx (T j).1 (T j).2.1 (T j).2.2.1 ∈ gT) (hfin : (T j).2.2.2 = true) (hini : gIni G) (hdec : (T j).1 = own) (ht : ty0 j = .array .long) (hjl : j < fs.length) (hv : (Int16.ofInt n0).toInt32 = Int32.ofInt (N : Int)) (hN2 : N ≤ 300) (h1 : c1 + 1 ≤ mc) (h2 : s1 + N ≤ ms) (hd0 : decode cc pc = .ok (.aload_n 0, 1)) (hd1 : decode cc (pc + 1) = .ok (.sipush n0, 3)) (hd2 : decode cc (pc + 1 + 3) = .ok (.newarray .long, 2)) (hd3 : decode cc (pc + 1 + 3 + 2) = .ok (.putfield idx, 3)) (k : ∀ q, WK G nL ((a, .inr (ci, fs.set j (Value.ref q))) :: (tl ++ [(q, .inl (gcT G 2, N, .inr (.inl fun _ => 0)))])) (c1 + 1) (s1 + N) (pc + 1 + 3 + 2 + 3) lv []) : WK G nL ((a, .inr (ci, fs)) :: tl) c1 s1 pc lv [] := by
  refine n_aload_n C pl hd0 rfl hpl ?_
  refine n_sipush (v := (N : Int)) C hd1 hv ?_
  refine n_newJ (N := N) (ws2 := fun q => (a, .inr (ci, fs)) :: (tl ++ [(q, .inl (gcT G 2, N, .inr (.inl fun _ => 0)))])) C rfl hN2 ac_long h1 h2 hd2 (fun q => rfl) (fun q => ?_)
  exact n_putF (j := j) (fs2 := fs.set j (Value.ref q)) C hc hty hnm hj2 hl2 hfin hini hdec ht rfl rfl hjl hd3 rfl (k q)
def gFsR (ad : Nat → Nat) (μ : GM) (k : Nat) : Nat → List (Nat × Nat) → List Value
  | _, [] => []
  | j, q :: l => gV ad (μ.2 k j) q :: gFsR ad μ k (j + 1) l
theorem gFsR_at (ad : Nat → Nat) (μ : GM) (k : Nat) : ∀ (l : List (Nat × Nat)) (j i : Nat), (gFsR ad μ k j l)[i]? = (l[i]?).map (fun q => gV ad (μ.2 k (j + i)) q)
  | [], j, i => by simp [gFsR]
  | q :: l, j, 0 => by simp [gFsR]
  | q :: l, j, i + 1 => by
    show (gFsR ad μ k (j + 1) l)[i]? = _
    rw [gFsR_at ad μ k l (j + 1) i, List.getElem?_cons_succ, show j + 1 + i = j + (i + 1) by omega]
theorem gFs_eq (ad : Nat → Nat) (μ : GM) (k : Nat) (fl : List (Nat × Nat)) : gFs ad μ k fl = gFsR ad μ k 0 fl := by
  apply List.ext_getElem?
  intro i
  rw [gFsR_at, Nat.zero_add]
  unfold gFs
  rw [List.getElem?_mapIdx]
theorem wk_lim0 {G : GX} {mc ms c1 s1 : Nat} {h0 q i0 : Nat} {fs : List Value} {tl : va_W} {f : Nat → Int32} (C : CK G 1 cX12_init 2 RX12 mc ms) (hfs : fs[49]? = some (Value.ref q)) (htl : tl[i0]? = some (q, .inl (gcT G 0, 6, .inl f))) (k : WK G 2 ((h0, .inr (12, fs)) :: tl.set i0 (q, .inl (gcT G 0, 6, .inl (upd f (Int.toNat 0) (Int32.ofInt (-10000009)))))) c1 s1 316 [(1, vI 1), (0, Value.ref h0)] []) : WK G 2 ((h0, .inr (12, fs)) :: tl) c1 s1 316 [(1, vI 0), (0, Value.ref h0)] [] := by
  refine n_iload_n C 0 dX12_init_316 rfl rfl ?_
  refine n_bipush (v := 6) C dX12_init_317 (by decide) ?_
  refine n_icmp_ge (tgt := 336) C ⟨by decide, by decide⟩ ⟨by decide, by decide⟩ dX12_init_319 (by decide) (fun q => absurd (by decide) q) (fun _ => ?_)
  refine n_aload_n C 1 dX12_init_322 rfl rfl ?_
  refine n_get (j := 49) (v := Value.ref q) C rfl (Nat.le_of_ble_eq_true rfl) lkf_RX12_126 hfs dX12_init_323 ?_
  refine n_iload_n C 0 dX12_init_326 rfl rfl ?_
  refine n_ldc (v := -10000009) C lkc_RX12_132 rfl dX12_init_327 ?_
  refine n_iast (i0 := i0 + 1) (ws2 := (h0, .inr (12, fs)) :: tl.set i0 (q, .inl (gcT G 0, 6, .inl (upd f (Int.toNat 0) (Int32.ofInt (-10000009)))))) C htl ⟨by decide, by decide⟩ ⟨by decide, by decide⟩ dX12_init_329 rfl ?_
  have hl2 := (List.getElem?_eq_some_iff.mp htl).1
  have htl := List.getElem?_set_self (a := ((q, .inl (gcT G 0, 6, .inl (upd f (Int.toNat 0) (Int32.ofInt (-10000009))))) : Nat × va_E)) hl2
  refine n_iinc (lv2 := [(1, vI 1), (0, Value.ref h0)]) C 0 dX12_init_330 rfl (by decide) rfl ?_
  refine n_goto (tgt := 316) C dX12_init_333 (by decide) ?_
  exact k
theorem wk_lim1 {G : GX} {mc ms c1 s1 : Nat} {h0 q i0 : Nat} {fs : List Value} {tl : va_W} {f : Nat → Int32} (C : CK G 1 cX12_init 2 RX12 mc ms) (hfs : fs[49]? = some (Value.ref q)) (htl : tl[i0]? = some (q, .inl (gcT G 0, 6, .inl f))) (k : WK G 2 ((h0, .inr (12, fs)) :: tl.set i0 (q, .inl (gcT G 0, 6, .inl (upd f (Int.toNat 1) (Int32.ofInt (-10000009)))))) c1 s1 316 [(1, vI 2), (0, Value.ref h0)] []) : WK G 2 ((h0, .inr (12, fs)) :: tl) c1 s1 316 [(1, vI 1), (0, Value.ref h0)] [] := by
  refine n_iload_n C 0 dX12_init_316 rfl rfl ?_
  refine n_bipush (v := 6) C dX12_init_317 (by decide) ?_
  refine n_icmp_ge (tgt := 336) C ⟨by decide, by decide⟩ ⟨by decide, by decide⟩ dX12_init_319 (by decide) (fun q => absurd (by decide) q) (fun _ => ?_)
  refine n_aload_n C 1 dX12_init_322 rfl rfl ?_
  refine n_get (j := 49) (v := Value.ref q) C rfl (Nat.le_of_ble_eq_true rfl) lkf_RX12_126 hfs dX12_init_323 ?_
  refine n_iload_n C 0 dX12_init_326 rfl rfl ?_
  refine n_ldc (v := -10000009) C lkc_RX12_132 rfl dX12_init_327 ?_
  refine n_iast (i0 := i0 + 1) (ws2 := (h0, .inr (12, fs)) :: tl.set i0 (q, .inl (gcT G 0, 6, .inl (upd f (Int.toNat 1) (Int32.ofInt (-10000009)))))) C htl ⟨by decide, by decide⟩ ⟨by decide, by decide⟩ dX12_init_329 rfl ?_
  have hl2 := (List.getElem?_eq_some_iff.mp htl).1
  have htl := List.getElem?_set_self (a := ((q, .inl (gcT G 0, 6, .inl (upd f (Int.toNat 1) (Int32.ofInt (-10000009))))) : Nat × va_E)) hl2
  refine n_iinc (lv2 := [(1, vI 2), (0, Value.ref h0)]) C 0 dX12_init_330 rfl (by decide) rfl ?_
  refine n_goto (tgt := 316) C dX12_init_333 (by decide) ?_
  exact k
theorem wk_lim2 {G : GX} {mc ms c1 s1 : Nat} {h0 q i0 : Nat} {fs : List Value} {tl : va_W} {f : Nat → Int32} (C : CK G 1 cX12_init 2 RX12 mc ms) (hfs : fs[49]? = some (Value.ref q)) (htl : tl[i0]? = some (q, .inl (gcT G 0, 6, .inl f))) (k : WK G 2 ((h0, .inr (12, fs)) :: tl.set i0 (q, .inl (gcT G 0, 6, .inl (upd f (Int.toNat 2) (Int32.ofInt (-10000009)))))) c1 s1 316 [(1, vI 3), (0, Value.ref h0)] []) : WK G 2 ((h0, .inr (12, fs)) :: tl) c1 s1 316 [(1, vI 2), (0, Value.ref h0)] [] := by
  refine n_iload_n C 0 dX12_init_316 rfl rfl ?_
  refine n_bipush (v := 6) C dX12_init_317 (by decide) ?_
  refine n_icmp_ge (tgt := 336) C ⟨by decide, by decide⟩ ⟨by decide, by decide⟩ dX12_init_319 (by decide) (fun q => absurd (by decide) q) (fun _ => ?_)
  refine n_aload_n C 1 dX12_init_322 rfl rfl ?_
  refine n_get (j := 49) (v := Value.ref q) C rfl (Nat.le_of_ble_eq_true rfl) lkf_RX12_126 hfs dX12_init_323 ?_
  refine n_iload_n C 0 dX12_init_326 rfl rfl ?_
  refine n_ldc (v := -10000009) C lkc_RX12_132 rfl dX12_init_327 ?_
  refine n_iast (i0 := i0 + 1) (ws2 := (h0, .inr (12, fs)) :: tl.set i0 (q, .inl (gcT G 0, 6, .inl (upd f (Int.toNat 2) (Int32.ofInt (-10000009)))))) C htl ⟨by decide, by decide⟩ ⟨by decide, by decide⟩ dX12_init_329 rfl ?_
  have hl2 := (List.getElem?_eq_some_iff.mp htl).1
  have htl := List.getElem?_set_self (a := ((q, .inl (gcT G 0, 6, .inl (upd f (Int.toNat 2) (Int32.ofInt (-10000009))))) : Nat × va_E)) hl2
  refine n_iinc (lv2 := [(1, vI 3), (0, Value.ref h0)]) C 0 dX12_init_330 rfl (by decide) rfl ?_
  refine n_goto (tgt := 316) C dX12_init_333 (by decide) ?_
  exact k
theorem wk_lim3 {G : GX} {mc ms c1 s1 : Nat} {h0 q i0 : Nat} {fs : List Value} {tl : va_W} {f : Nat → Int32} (C : CK G 1 cX12_init 2 RX12 mc ms) (hfs : fs[49]? = some (Value.ref q)) (htl : tl[i0]? = some (q, .inl (gcT G 0, 6, .inl f))) (k : WK G 2 ((h0, .inr (12, fs)) :: tl.set i0 (q, .inl (gcT G 0, 6, .inl (upd f (Int.toNat 3) (Int32.ofInt (-10000009)))))) c1 s1 316 [(1, vI 4), (0, Value.ref h0)] []) : WK G 2 ((h0, .inr (12, fs)) :: tl) c1 s1 316 [(1, vI 3), (0, Value.ref h0)] [] := by
  refine n_iload_n C 0 dX12_init_316 rfl rfl ?_
  refine n_bipush (v := 6) C dX12_init_317 (by decide) ?_
  refine n_icmp_ge (tgt := 336) C ⟨by decide, by decide⟩ ⟨by decide, by decide⟩ dX12_init_319 (by decide) (fun q => absurd (by decide) q) (fun _ => ?_)
  refine n_aload_n C 1 dX12_init_322 rfl rfl ?_
  refine n_get (j := 49) (v := Value.ref q) C rfl (Nat.le_of_ble_eq_true rfl) lkf_RX12_126 hfs dX12_init_323 ?_
  refine n_iload_n C 0 dX12_init_326 rfl rfl ?_
  refine n_ldc (v := -10000009) C lkc_RX12_132 rfl dX12_init_327 ?_
  refine n_iast (i0 := i0 + 1) (ws2 := (h0, .inr (12, fs)) :: tl.set i0 (q, .inl (gcT G 0, 6, .inl (upd f (Int.toNat 3) (Int32.ofInt (-10000009)))))) C htl ⟨by decide, by decide⟩ ⟨by decide, by decide⟩ dX12_init_329 rfl ?_
  have hl2 := (List.getElem?_eq_some_iff.mp htl).1
  have htl := List.getElem?_set_self (a := ((q, .inl (gcT G 0, 6, .inl (upd f (Int.toNat 3) (Int32.ofInt (-10000009))))) : Nat × va_E)) hl2
  refine n_iinc (lv2 := [(1, vI 4), (0, Value.ref h0)]) C 0 dX12_init_330 rfl (by decide) rfl ?_
  refine n_goto (tgt := 316) C dX12_init_333 (by decide) ?_
  exact k
theorem wk_lim4 {G : GX} {mc ms c1 s1 : Nat} {h0 q i0 : Nat} {fs : List Value} {tl : va_W} {f : Nat → Int32} (C : CK G 1 cX12_init 2 RX12 mc ms) (hfs : fs[49]? = some (Value.ref q)) (htl : tl[i0]? = some (q, .inl (gcT G 0, 6, .inl f))) (k : WK G 2 ((h0, .inr (12, fs)) :: tl.set i0 (q, .inl (gcT G 0, 6, .inl (upd f (Int.toNat 4) (Int32.ofInt (-10000009)))))) c1 s1 316 [(1, vI 5), (0, Value.ref h0)] []) : WK G 2 ((h0, .inr (12, fs)) :: tl) c1 s1 316 [(1, vI 4), (0, Value.ref h0)] [] := by
  refine n_iload_n C 0 dX12_init_316 rfl rfl ?_
  refine n_bipush (v := 6) C dX12_init_317 (by decide) ?_
  refine n_icmp_ge (tgt := 336) C ⟨by decide, by decide⟩ ⟨by decide, by decide⟩ dX12_init_319 (by decide) (fun q => absurd (by decide) q) (fun _ => ?_)
  refine n_aload_n C 1 dX12_init_322 rfl rfl ?_
  refine n_get (j := 49) (v := Value.ref q) C rfl (Nat.le_of_ble_eq_true rfl) lkf_RX12_126 hfs dX12_init_323 ?_
  refine n_iload_n C 0 dX12_init_326 rfl rfl ?_
  refine n_ldc (v := -10000009) C lkc_RX12_132 rfl dX12_init_327 ?_
  refine n_iast (i0 := i0 + 1) (ws2 := (h0, .inr (12, fs)) :: tl.set i0 (q, .inl (gcT G 0, 6, .inl (upd f (Int.toNat 4) (Int32.ofInt (-10000009)))))) C htl ⟨by decide, by decide⟩ ⟨by decide, by decide⟩ dX12_init_329 rfl ?_
  have hl2 := (List.getElem?_eq_some_iff.mp htl).1
  have htl := List.getElem?_set_self (a := ((q, .inl (gcT G 0, 6, .inl (upd f (Int.toNat 4) (Int32.ofInt (-10000009))))) : Nat × va_E)) hl2
  refine n_iinc (lv2 := [(1, vI 5), (0, Value.ref h0)]) C 0 dX12_init_330 rfl (by decide) rfl ?_
  refine n_goto (tgt := 316) C dX12_init_333 (by decide) ?_
  exact k
theorem wk_lim5 {G : GX} {mc ms c1 s1 : Nat} {h0 q i0 : Nat} {fs : List Value} {tl : va_W} {f : Nat → Int32} (C : CK G 1 cX12_init 2 RX12 mc ms) (hfs : fs[49]? = some (Value.ref q)) (htl : tl[i0]? = some (q, .inl (gcT G 0, 6, .inl f))) (k : WK G 2 ((h0, .inr (12, fs)) :: tl.set i0 (q, .inl (gcT G 0, 6, .inl (upd f (Int.toNat 5) (Int32.ofInt (-10000009)))))) c1 s1 316 [(1, vI 6), (0, Value.ref h0)] []) : WK G 2 ((h0, .inr (12, fs)) :: tl) c1 s1 316 [(1, vI 5), (0, Value.ref h0)] [] := by
  refine n_iload_n C 0 dX12_init_316 rfl rfl ?_
  refine n_bipush (v := 6) C dX12_init_317 (by decide) ?_
  refine n_icmp_ge (tgt := 336) C ⟨by decide, by decide⟩ ⟨by decide, by decide⟩ dX12_init_319 (by decide) (fun q => absurd (by decide) q) (fun _ => ?_)
  refine n_aload_n C 1 dX12_init_322 rfl rfl ?_
  refine n_get (j := 49) (v := Value.ref q) C rfl (Nat.le_of_ble_eq_true rfl) lkf_RX12_126 hfs dX12_init_323 ?_
  refine n_iload_n C 0 dX12_init_326 rfl rfl ?_
  refine n_ldc (v := -10000009) C lkc_RX12_132 rfl dX12_init_327 ?_
  refine n_iast (i0 := i0 + 1) (ws2 := (h0, .inr (12, fs)) :: tl.set i0 (q, .inl (gcT G 0, 6, .inl (upd f (Int.toNat 5) (Int32.ofInt (-10000009)))))) C htl ⟨by decide, by decide⟩ ⟨by decide, by decide⟩ dX12_init_329 rfl ?_
  have hl2 := (List.getElem?_eq_some_iff.mp htl).1
  have htl := List.getElem?_set_self (a := ((q, .inl (gcT G 0, 6, .inl (upd f (Int.toNat 5) (Int32.ofInt (-10000009))))) : Nat × va_E)) hl2
  refine n_iinc (lv2 := [(1, vI 6), (0, Value.ref h0)]) C 0 dX12_init_330 rfl (by decide) rfl ?_
  refine n_goto (tgt := 316) C dX12_init_333 (by decide) ?_
  exact k
theorem wk_lim {G : GX} {mc ms c1 s1 : Nat} {h0 q i0 : Nat} {fs : List Value} {tl : va_W} {f : Nat → Int32} (C : CK G 1 cX12_init 2 RX12 mc ms) (hfs : fs[49]? = some (Value.ref q)) (htl : tl[i0]? = some (q, .inl (gcT G 0, 6, .inl f))) (k : WK G 2 ((h0, .inr (12, fs)) :: tl.set i0 (q, .inl (gcT G 0, 6, .inl fun _ => Int32.ofInt (-10000009)))) c1 s1 336 [(1, vI 6), (0, Value.ref h0)] []) : WK G 2 ((h0, .inr (12, fs)) :: tl) c1 s1 316 [(1, vI 0), (0, Value.ref h0)] [] := by
  have hl2 := (List.getElem?_eq_some_iff.mp htl).1
  refine wk_lim0 C hfs htl ?_
  refine wk_lim1 C hfs (List.getElem?_set_self hl2) ?_
  rw [List.set_set]
  refine wk_lim2 C hfs (List.getElem?_set_self hl2) ?_
  rw [List.set_set]
  refine wk_lim3 C hfs (List.getElem?_set_self hl2) ?_
  rw [List.set_set]
  refine wk_lim4 C hfs (List.getElem?_set_self hl2) ?_
  rw [List.set_set]
  refine wk_lim5 C hfs (List.getElem?_set_self hl2) ?_
  rw [List.set_set]
  refine n_iload_n C 0 dX12_init_316 rfl rfl ?_
  refine n_bipush (v := 6) C dX12_init_317 (by decide) ?_
  refine n_icmp_ge (tgt := 336) C ⟨by decide, by decide⟩ ⟨by decide, by decide⟩ dX12_init_319 (by decide) (fun _ => ?_) (fun q => absurd q (by decide))
  refine WK.cellAt (i0 := i0 + 1) (a := q) (e1 := .inl (gcT G 0, 6, .inl fun _ => Int32.ofInt (-10000009))) (show (tl.set i0 _)[i0]? = _ from List.getElem?_set_self hl2) (fun D H h => ?_) (ws2 := (h0, .inr (12, fs)) :: tl.set i0 (q, .inl (gcT G 0, 6, .inl fun _ => Int32.ofInt (-10000009)))) (by show (_ :: (tl.set i0 _).set i0 _) = _; rw [List.set_set]) k
  show H[q]? = some (vp_cell _ (6, .inl fun _ => Int32.ofInt (-10000009)))
  rw [← vp_cell_eqI (gcT G 0) 6 _ (fun _ => Int32.ofInt (-10000009)) (fun j hj => ?_)]
  · exact h
  · match j, hj with
    | 0, _ => rfl
    | 1, _ => rfl
    | 2, _ => rfl
    | 3, _ => rfl
    | 4, _ => rfl
    | 5, _ => rfl
    | j + 6, hj => exact absurd hj (by omega)
def reg_X12_init : List Nat := 53 :: List.range' 54 40
set_option maxHeartbeats 3000000 in
set_option maxRecDepth 100000 in
theorem ci_X12_init (h0 : Nat) : Cw 1 40 1114 yX12_init cX12_init 2 [Value.ref h0] (fun _ => [(h0, .inr (12, [.int 0, .int 0, .null, .null, .null, .int 0, .null, .null, .null, .int 0, .null, .null, .null, .null, .int 0, .null, .null, .null, .int 0, .null, .null, .null, .null, .null, .long 0, .int 0, .null, .null, .null, .null, .null, .int 0, .null, .null, .null, .null, .null, .int 0, .null, .null, .null, .null, .null, .null, .int 0, .null, .null, .null, .null, .null, .int 0, .int 0, .int 0, .null]))]) (fun ad => ad 53 = h0) (fun ad cT => gWl reg_X12_init ad cT gMem0) := by
  refine Cw.of pf_X12_init (Nat.le_of_ble_eq_true rfl) (fun G C hini hQ => ?_)
  show WK G 2 ((h0, .inr (12, [.int 0, .int 0, .null, .null, .null, .int 0, .null, .null, .null, .int 0, .null, .null, .null, .null, .int 0, .null, .null, .null, .int 0, .null, .null, .null, .null, .null, .long 0, .int 0, .null, .null, .null, .null, .null, .int 0, .null, .null, .null, .null, .null, .int 0, .null, .null, .null, .null, .null, .null, .int 0, .null, .null, .null, .null, .null, .int 0, .int 0, .int 0, .null])) :: []) 0 0 0 [(0, Value.ref h0)] []
  refine n_aload_n C 0 dX12_init_0 rfl rfl ?_
  refine n_obji C lko_RX12_1 ob_i ob_c (by decide) (Nat.le_of_ble_eq_true rfl) dX12_init_1 ?_
  refine n_arrIb (j := 2) (N := 6) C 0 rfl rfl tyX12_ok nmX12 (Nat.le_of_ble_eq_true rfl) lkf_RX12_7 rfl hini rfl rfl (by simp only [List.length_set]; decide) (by decide) (by decide) (by decide) (by decide) dX12_init_4 dX12_init_5 dX12_init_7 dX12_init_9 (fun q1 => ?_)
  refine n_arrIb (j := 3) (N := 6) C 0 rfl rfl tyX12_ok nmX12 (Nat.le_of_ble_eq_true rfl) lkf_RX12_13 rfl hini rfl rfl (by simp only [List.length_set]; decide) (by decide) (by decide) (by decide) (by decide) dX12_init_12 dX12_init_13 dX12_init_15 dX12_init_17 (fun q2 => ?_)
  refine n_arrIb (j := 4) (N := 6) C 0 rfl rfl tyX12_ok nmX12 (Nat.le_of_ble_eq_true rfl) lkf_RX12_16 rfl hini rfl rfl (by simp only [List.length_set]; decide) (by decide) (by decide) (by decide) (by decide) dX12_init_20 dX12_init_21 dX12_init_23 dX12_init_25 (fun q3 => ?_)
  refine n_arrIb (j := 6) (N := 12) C 0 rfl rfl tyX12_ok nmX12 (Nat.le_of_ble_eq_true rfl) lkf_RX12_19 rfl hini rfl rfl (by simp only [List.length_set]; decide) (by decide) (by decide) (by decide) (by decide) dX12_init_28 dX12_init_29 dX12_init_31 dX12_init_33 (fun q4 => ?_)
  refine n_arrIb (j := 7) (N := 12) C 0 rfl rfl tyX12_ok nmX12 (Nat.le_of_ble_eq_true rfl) lkf_RX12_22 rfl hini rfl rfl (by simp only [List.length_set]; decide) (by decide) (by decide) (by decide) (by decide) dX12_init_36 dX12_init_37 dX12_init_39 dX12_init_41 (fun q5 => ?_)
  refine n_arrIb (j := 8) (N := 12) C 0 rfl rfl tyX12_ok nmX12 (Nat.le_of_ble_eq_true rfl) lkf_RX12_25 rfl hini rfl rfl (by simp only [List.length_set]; decide) (by decide) (by decide) (by decide) (by decide) dX12_init_44 dX12_init_45 dX12_init_47 dX12_init_49 (fun q6 => ?_)
  refine n_arrIc (j := 10) (N := 3) C 0 rfl rfl tyX12_ok nmX12 (Nat.le_of_ble_eq_true rfl) lkf_RX12_28 rfl hini rfl rfl (by simp only [List.length_set]; decide) rfl (by decide) (by decide) (by decide) dX12_init_52 dX12_init_53 dX12_init_54 dX12_init_56 (fun q7 => ?_)
  refine n_arrIc (j := 11) (N := 3) C 0 rfl rfl tyX12_ok nmX12 (Nat.le_of_ble_eq_true rfl) lkf_RX12_31 rfl hini rfl rfl (by simp only [List.length_set]; decide) rfl (by decide) (by decide) (by decide) dX12_init_59 dX12_init_60 dX12_init_61 dX12_init_63 (fun q8 => ?_)
  refine n_arrIc (j := 12) (N := 3) C 0 rfl rfl tyX12_ok nmX12 (Nat.le_of_ble_eq_true rfl) lkf_RX12_34 rfl hini rfl rfl (by simp only [List.length_set]; decide) rfl (by decide) (by decide) (by decide) dX12_init_66 dX12_init_67 dX12_init_68 dX12_init_70 (fun q9 => ?_)
  refine n_arrIc (j := 13) (N := 3) C 0 rfl rfl tyX12_ok nmX12 (Nat.le_of_ble_eq_true rfl) lkf_RX12_37 rfl hini rfl rfl (by simp only [List.length_set]; decide) rfl (by decide) (by decide) (by decide) dX12_init_73 dX12_init_74 dX12_init_75 dX12_init_77 (fun q10 => ?_)
  refine n_arrIc (j := 15) (N := 2) C 0 rfl rfl tyX12_ok nmX12 (Nat.le_of_ble_eq_true rfl) lkf_RX12_40 rfl hini rfl rfl (by simp only [List.length_set]; decide) rfl (by decide) (by decide) (by decide) dX12_init_80 dX12_init_81 dX12_init_82 dX12_init_84 (fun q11 => ?_)
  refine n_arrIc (j := 16) (N := 2) C 0 rfl rfl tyX12_ok nmX12 (Nat.le_of_ble_eq_true rfl) lkf_RX12_43 rfl hini rfl rfl (by simp only [List.length_set]; decide) rfl (by decide) (by decide) (by decide) dX12_init_87 dX12_init_88 dX12_init_89 dX12_init_91 (fun q12 => ?_)
  refine n_arrIc (j := 17) (N := 2) C 0 rfl rfl tyX12_ok nmX12 (Nat.le_of_ble_eq_true rfl) lkf_RX12_46 rfl hini rfl rfl (by simp only [List.length_set]; decide) rfl (by decide) (by decide) (by decide) dX12_init_94 dX12_init_95 dX12_init_96 dX12_init_98 (fun q13 => ?_)
  refine n_arrIc (j := 19) (N := 3) C 0 rfl rfl tyX12_ok nmX12 (Nat.le_of_ble_eq_true rfl) lkf_RX12_49 rfl hini rfl rfl (by simp only [List.length_set]; decide) rfl (by decide) (by decide) (by decide) dX12_init_101 dX12_init_102 dX12_init_103 dX12_init_105 (fun q14 => ?_)
  refine n_arrIc (j := 20) (N := 3) C 0 rfl rfl tyX12_ok nmX12 (Nat.le_of_ble_eq_true rfl) lkf_RX12_52 rfl hini rfl rfl (by simp only [List.length_set]; decide) rfl (by decide) (by decide) (by decide) dX12_init_108 dX12_init_109 dX12_init_110 dX12_init_112 (fun q15 => ?_)
  refine n_arrIc (j := 21) (N := 3) C 0 rfl rfl tyX12_ok nmX12 (Nat.le_of_ble_eq_true rfl) lkf_RX12_55 rfl hini rfl rfl (by simp only [List.length_set]; decide) rfl (by decide) (by decide) (by decide) dX12_init_115 dX12_init_116 dX12_init_117 dX12_init_119 (fun q16 => ?_)
  refine n_arrIc (j := 22) (N := 3) C 0 rfl rfl tyX12_ok nmX12 (Nat.le_of_ble_eq_true rfl) lkf_RX12_58 rfl hini rfl rfl (by simp only [List.length_set]; decide) rfl (by decide) (by decide) (by decide) dX12_init_122 dX12_init_123 dX12_init_124 dX12_init_126 (fun q17 => ?_)
  refine n_arrJb (j := 23) (N := 6) C 0 rfl rfl tyX12_ok nmX12 (Nat.le_of_ble_eq_true rfl) lkf_RX12_61 rfl hini rfl rfl (by simp only [List.length_set]; decide) (by decide) (by decide) (by decide) (by decide) dX12_init_129 dX12_init_130 dX12_init_132 dX12_init_134 (fun q18 => ?_)
  refine n_arrIb (j := 26) (N := 12) C 0 rfl rfl tyX12_ok nmX12 (Nat.le_of_ble_eq_true rfl) lkf_RX12_65 rfl hini rfl rfl (by simp only [List.length_set]; decide) (by decide) (by decide) (by decide) (by decide) dX12_init_137 dX12_init_138 dX12_init_140 dX12_init_142 (fun q19 => ?_)
  refine n_arrIc (j := 27) (N := 3) C 0 rfl rfl tyX12_ok nmX12 (Nat.le_of_ble_eq_true rfl) lkf_RX12_68 rfl hini rfl rfl (by simp only [List.length_set]; decide) rfl (by decide) (by decide) (by decide) dX12_init_145 dX12_init_146 dX12_init_147 dX12_init_149 (fun q20 => ?_)
  refine n_arrJb (j := 28) (N := 36) C 0 rfl rfl tyX12_ok nmX12 (Nat.le_of_ble_eq_true rfl) lkf_RX12_71 rfl hini rfl rfl (by simp only [List.length_set]; decide) (by decide) (by decide) (by decide) (by decide) dX12_init_152 dX12_init_153 dX12_init_155 dX12_init_157 (fun q21 => ?_)
  refine n_arrJb (j := 29) (N := 6) C 0 rfl rfl tyX12_ok nmX12 (Nat.le_of_ble_eq_true rfl) lkf_RX12_74 rfl hini rfl rfl (by simp only [List.length_set]; decide) (by decide) (by decide) (by decide) (by decide) dX12_init_160 dX12_init_161 dX12_init_163 dX12_init_165 (fun q22 => ?_)
  refine n_arrJb (j := 30) (N := 36) C 0 rfl rfl tyX12_ok nmX12 (Nat.le_of_ble_eq_true rfl) lkf_RX12_77 rfl hini rfl rfl (by simp only [List.length_set]; decide) (by decide) (by decide) (by decide) (by decide) dX12_init_168 dX12_init_169 dX12_init_171 dX12_init_173 (fun q23 => ?_)
  refine n_arrIb (j := 32) (N := 20) C 0 rfl rfl tyX12_ok nmX12 (Nat.le_of_ble_eq_true rfl) lkf_RX12_80 rfl hini rfl rfl (by simp only [List.length_set]; decide) (by decide) (by decide) (by decide) (by decide) dX12_init_176 dX12_init_177 dX12_init_179 dX12_init_181 (fun q24 => ?_)
  refine n_arrJb (j := 33) (N := 20) C 0 rfl rfl tyX12_ok nmX12 (Nat.le_of_ble_eq_true rfl) lkf_RX12_83 rfl hini rfl rfl (by simp only [List.length_set]; decide) (by decide) (by decide) (by decide) (by decide) dX12_init_184 dX12_init_185 dX12_init_187 dX12_init_189 (fun q25 => ?_)
  refine n_arrIb (j := 34) (N := 6) C 0 rfl rfl tyX12_ok nmX12 (Nat.le_of_ble_eq_true rfl) lkf_RX12_86 rfl hini rfl rfl (by simp only [List.length_set]; decide) (by decide) (by decide) (by decide) (by decide) dX12_init_192 dX12_init_193 dX12_init_195 dX12_init_197 (fun q26 => ?_)
  refine n_arrIb (j := 35) (N := 6) C 0 rfl rfl tyX12_ok nmX12 (Nat.le_of_ble_eq_true rfl) lkf_RX12_89 rfl hini rfl rfl (by simp only [List.length_set]; decide) (by decide) (by decide) (by decide) (by decide) dX12_init_200 dX12_init_201 dX12_init_203 dX12_init_205 (fun q27 => ?_)
  refine n_arrJb (j := 36) (N := 6) C 0 rfl rfl tyX12_ok nmX12 (Nat.le_of_ble_eq_true rfl) lkf_RX12_92 rfl hini rfl rfl (by simp only [List.length_set]; decide) (by decide) (by decide) (by decide) (by decide) dX12_init_208 dX12_init_209 dX12_init_211 dX12_init_213 (fun q28 => ?_)
  refine n_arrIc (j := 38) (N := 5) C 0 rfl rfl tyX12_ok nmX12 (Nat.le_of_ble_eq_true rfl) lkf_RX12_95 rfl hini rfl rfl (by simp only [List.length_set]; decide) rfl (by decide) (by decide) (by decide) dX12_init_216 dX12_init_217 dX12_init_218 dX12_init_220 (fun q29 => ?_)
  refine n_arrIc (j := 39) (N := 5) C 0 rfl rfl tyX12_ok nmX12 (Nat.le_of_ble_eq_true rfl) lkf_RX12_98 rfl hini rfl rfl (by simp only [List.length_set]; decide) rfl (by decide) (by decide) (by decide) dX12_init_223 dX12_init_224 dX12_init_225 dX12_init_227 (fun q30 => ?_)
  refine n_arrZb (j := 40) (N := 6) C 0 rfl rfl tyX12_ok nmX12 (Nat.le_of_ble_eq_true rfl) lkf_RX12_101 rfl hini rfl rfl (by simp only [List.length_set]; decide) (by decide) (by decide) (by decide) (by decide) dX12_init_230 dX12_init_231 dX12_init_233 dX12_init_235 (fun q31 => ?_)
  refine n_arrIb (j := 41) (N := 6) C 0 rfl rfl tyX12_ok nmX12 (Nat.le_of_ble_eq_true rfl) lkf_RX12_105 rfl hini rfl rfl (by simp only [List.length_set]; decide) (by decide) (by decide) (by decide) (by decide) dX12_init_238 dX12_init_239 dX12_init_241 dX12_init_243 (fun q32 => ?_)
  refine n_arrIb (j := 42) (N := 6) C 0 rfl rfl tyX12_ok nmX12 (Nat.le_of_ble_eq_true rfl) lkf_RX12_108 rfl hini rfl rfl (by simp only [List.length_set]; decide) (by decide) (by decide) (by decide) (by decide) dX12_init_246 dX12_init_247 dX12_init_249 dX12_init_251 (fun q33 => ?_)
  refine n_arrIb (j := 43) (N := 30) C 0 rfl rfl tyX12_ok nmX12 (Nat.le_of_ble_eq_true rfl) lkf_RX12_111 rfl hini rfl rfl (by simp only [List.length_set]; decide) (by decide) (by decide) (by decide) (by decide) dX12_init_254 dX12_init_255 dX12_init_257 dX12_init_259 (fun q34 => ?_)
  refine n_arrIs (j := 45) (N := 200) C 0 rfl rfl tyX12_ok nmX12 (Nat.le_of_ble_eq_true rfl) lkf_RX12_114 rfl hini rfl rfl (by simp only [List.length_set]; decide) (by decide) (by decide) (by decide) (by decide) dX12_init_262 dX12_init_263 dX12_init_266 dX12_init_268 (fun q35 => ?_)
  refine n_arrZs (j := 46) (N := 201) C 0 rfl rfl tyX12_ok nmX12 (Nat.le_of_ble_eq_true rfl) lkf_RX12_117 rfl hini rfl rfl (by simp only [List.length_set]; decide) (by decide) (by decide) (by decide) (by decide) dX12_init_271 dX12_init_272 dX12_init_275 dX12_init_277 (fun q36 => ?_)
  refine n_arrZs (j := 47) (N := 201) C 0 rfl rfl tyX12_ok nmX12 (Nat.le_of_ble_eq_true rfl) lkf_RX12_120 rfl hini rfl rfl (by simp only [List.length_set]; decide) (by decide) (by decide) (by decide) (by decide) dX12_init_280 dX12_init_281 dX12_init_284 dX12_init_286 (fun q37 => ?_)
  refine n_arrIs (j := 48) (N := 201) C 0 rfl rfl tyX12_ok nmX12 (Nat.le_of_ble_eq_true rfl) lkf_RX12_123 rfl hini rfl rfl (by simp only [List.length_set]; decide) (by decide) (by decide) (by decide) (by decide) dX12_init_289 dX12_init_290 dX12_init_293 dX12_init_295 (fun q38 => ?_)
  refine n_arrIb (j := 49) (N := 6) C 0 rfl rfl tyX12_ok nmX12 (Nat.le_of_ble_eq_true rfl) lkf_RX12_126 rfl hini rfl rfl (by simp only [List.length_set]; decide) (by decide) (by decide) (by decide) (by decide) dX12_init_298 dX12_init_299 dX12_init_301 dX12_init_303 (fun q39 => ?_)
  refine n_arrIb (j := 53) (N := 6) C 0 rfl rfl tyX12_ok nmX12 (Nat.le_of_ble_eq_true rfl) lkf_RX12_129 rfl hini rfl rfl (by simp only [List.length_set]; decide) (by decide) (by decide) (by decide) (by decide) dX12_init_306 dX12_init_307 dX12_init_309 dX12_init_311 (fun q40 => ?_)
  simp only [List.set_cons_succ, List.set_cons_zero, List.nil_append, List.append_assoc, List.cons_append]
  refine n_iconst C dX12_init_314 ?_
  refine n_istore_n (lv2 := [(1, vI 0), (0, Value.ref h0)]) C dX12_init_315 rfl (by decide) rfl ?_
  refine wk_lim (q := q39) (i0 := 38) C rfl rfl ?_
  simp only [List.set_cons_succ, List.set_cons_zero]
  refine n_vret C hQ (fun k => ([h0, q1, q2, q3, q4, q5, q6, q7, q8, q9, q10, q11, q12, q13, q14, q15, q16, q17, q18, q19, q20, q21, q22, q23, q24, q25, q26, q27, q28, q29, q30, q31, q32, q33, q34, q35, q36, q37, q38, q39, q40] : List Nat).getD (k - 53) 0) rfl ?_ (by decide) (by decide) dX12_init_336
  generalize hl : ([h0, q1, q2, q3, q4, q5, q6, q7, q8, q9, q10, q11, q12, q13, q14, q15, q16, q17, q18, q19, q20, q21, q22, q23, q24, q25, q26, q27, q28, q29, q30, q31, q32, q33, q34, q35, q36, q37, q38, q39, q40] : List Nat) = adl
  show _ = gWl (53 :: List.range' 54 40) (fun k => adl.getD (k - 53) 0) (gcT G) gMem0
  rw [gWl_cons]
  subst hl
  refine congr (congrArg List.cons (Prod.ext rfl ?_)) ?_
  · show _ = Sum.inr (12, gFs _ gMem0 53 (gE 53).2.2.2)
    rw [gFs_eq]
    rfl
  · rfl
