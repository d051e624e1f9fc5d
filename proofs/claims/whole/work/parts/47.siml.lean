/-! bits counted -/
def zBc (x0 : Int32) : Int32 :=
  let x101 : Int32 := (x0 - ((UInt32.toInt32 (Int32.toUInt32 x0 >>> (Int32.toUInt32 (1 : Int32) &&& Int32.toUInt32 31))) &&& (1431655765 : Int32)))
  let x102 : Int32 := ((x101 &&& (858993459 : Int32)) + ((UInt32.toInt32 (Int32.toUInt32 x101 >>> (Int32.toUInt32 (2 : Int32) &&& Int32.toUInt32 31))) &&& (858993459 : Int32)))
  let x103 : Int32 := ((x102 + (UInt32.toInt32 (Int32.toUInt32 x102 >>> (Int32.toUInt32 (4 : Int32) &&& Int32.toUInt32 31)))) &&& (252645135 : Int32))
  let x104 : Int32 := (x103 + (UInt32.toInt32 (Int32.toUInt32 x103 >>> (Int32.toUInt32 (8 : Int32) &&& Int32.toUInt32 31))))
  let x105 : Int32 := (x104 + (UInt32.toInt32 (Int32.toUInt32 x104 >>> (Int32.toUInt32 (16 : Int32) &&& Int32.toUInt32 31))))
  (x105 &&& (63 : Int32))
theorem sX_bitCount (d : Nat) (x : Int32) (s : zS) : zcall zMs skX (d + 1) 215 [.inl x] s = some (some (.inl (zBc x)), s) := by
  rw [aX_J_bitCount]
  rfl
theorem sM_bitCount (d : Nat) (x : Int32) (s : zS) : zcall zMs skM (d + 1) 215 [.inl x] s = some (some (.inl (zBc x)), s) := by
  rw [aM_J_bitCount]
  rfl
def pc16 (k : Nat) : Nat := k / 1 % 2 + k / 2 % 2 + k / 4 % 2 + k / 8 % 2 + k / 16 % 2 + k / 32 % 2 + k / 64 % 2 + k / 128 % 2 + k / 256 % 2 + k / 512 % 2 + k / 1024 % 2 + k / 2048 % 2 + k / 4096 % 2 + k / 8192 % 2 + k / 16384 % 2 + k / 32768 % 2
theorem zBc_16 : ∀ a, a < 256 → ∀ b, b < 256 → zBc (nI (256 * a + b)) = nI (pc16 (256 * a + b)) := by decide +kernel
