/-! patterns as bits -/
def pbits (R D : Int) : Int := gor (w32 (gshl 1 R - 1)) (gshl (w32 (gshl 1 D - 1)) 3)
def okb (p R D : Int) : Bool := decide (gshr (gand p 7) R = 0) && decide (gshr (gshr p 3) D = 0)
theorem bitF1 : ∀ (x : Fin 32) (R : Fin 4) (D : Fin 3), (decide (gand (x.1 : Int) (gxor (pbits (R.1 : Int) (D.1 : Int)) (-1)) = 0)) = okb (x.1 : Int) (R.1 : Int) (D.1 : Int) := by decide +kernel
theorem bitF3 : ∀ (b x : Fin 32), gxor (b.1 : Int) (gxor (b.1 : Int) (x.1 : Int)) = (x.1 : Int) ∧ 0 ≤ gxor (b.1 : Int) (x.1 : Int) ∧ gxor (b.1 : Int) (x.1 : Int) < 32 := by decide +kernel
theorem bitF2 : ∀ (R : Fin 4) (D : Fin 3) (b x : Fin 32), okb (b.1 : Int) (R.1 : Int) (D.1 : Int) = true → okb (x.1 : Int) (R.1 : Int) (D.1 : Int) = true → okb (gxor (b.1 : Int) (x.1 : Int)) (R.1 : Int) (D.1 : Int) = true := by decide +kernel
def ib (p : Int) (r : Nat) : Int := if bt p r then 1 else 0
theorem bitF4 : ∀ x : Fin 32, (x.1 : Int) = ib (x.1 : Int) 0 + 2 * ib (x.1 : Int) 1 + 4 * ib (x.1 : Int) 2 + 8 * ib (x.1 : Int) 3 + 16 * ib (x.1 : Int) 4 := by decide +kernel
theorem bitF5 : ∀ (x : Fin 32) (R : Fin 4) (D : Fin 3), okb (x.1 : Int) (R.1 : Int) (D.1 : Int) = true → (∀ r : Fin 3, R.1 ≤ r.1 → ib (x.1 : Int) r.1 = 0) ∧ (∀ d : Fin 2, D.1 ≤ d.1 → ib (x.1 : Int) (d.1 + 3) = 0) := by decide +kernel
