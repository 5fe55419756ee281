/-! THE PLANNER, pure: choices, three bits each *** by hand -/
def fld (x : Int64) (u : Nat) : Int32 := ((x.toUInt64 >>> (((3 : Int32) * nI u).toInt64.toUInt64 &&& Int64.toUInt64 63)).toInt64).toInt32 &&& (7 : Int32)
theorem fld_or (x y : Int64) (u : Nat) : fld (x ||| y) u = fld x u ||| fld y u := by
  unfold fld
  generalize ((3 : Int32) * nI u).toInt64.toUInt64 &&& Int64.toUInt64 63 = k
  apply Int32.toBitVec_inj.mp
  apply BitVec.eq_of_getLsbD_eq
  intro i hi
  show _ = _
  simp only [Int32.toBitVec_and, Int32.toBitVec_or, Int64.toBitVec_toInt32, Int64.toBitVec_or]
  have h64 : i < 64 := by omega
  simp [BitVec.getLsbD_signExtend, h64]
  generalize decide (i < 32) = q
  generalize x.toBitVec.getLsbD (k.toNat % 64 + i) = a
  generalize y.toBitVec.getLsbD (k.toNat % 64 + i) = b
  generalize (7#32).getLsbD i = c
  cases q <;> cases a <;> cases b <;> cases c <;> rfl
theorem fld_0 (u : Nat) : fld 0 u = 0 := by
  unfold fld
  generalize ((3 : Int32) * nI u).toInt64.toUInt64 &&& Int64.toUInt64 63 = k
  apply Int32.toBitVec_inj.mp
  apply BitVec.eq_of_getLsbD_eq
  intro i hi
  have h64 : i < 64 := by omega
  simp [BitVec.getLsbD_signExtend, h64]
def wch (k u : Nat) : Int64 := (nI k).toInt64 <<< (((3 : Int32) * nI u).toInt64 &&& 63)
theorem fld_wT : ∀ k, k < 5 → ∀ u, u < 20 → ∀ v, v < 20 → fld (wch k u) v = if u = v then nI k else 0 := by decide +kernel
