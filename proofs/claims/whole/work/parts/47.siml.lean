/-! bits counted -/
def zBc (x0 : Int32) : Int32 :=
  let x101 : Int32 := (x0 - ((UInt32.toInt32 (Int32.toUInt32 x0 >>> (Int32.toUInt32 (1 : Int32) &&& Int32.toUInt32 31))) &&& (1431655765 : Int32)))
  let x102 : Int32 := ((x101 &&& (858993459 : Int32)) + ((UInt32.toInt32 (Int32.toUInt32 x101 >>> (Int32.toUInt32 (2 : Int32) &&& Int32.toUInt32 31))) &&& (858993459 : Int32)))
  let x103 : Int32 := ((x102 + (UInt32.toInt32 (Int32.toUInt32 x102 >>> (Int32.toUInt32 (4 : Int32) &&& Int32.toUInt32 31)))) &&& (252645135 : Int32))
  let x104 : Int32 := (x103 + (UInt32.toInt32 (Int32.toUInt32 x103 >>> (Int32.toUInt32 (8 : Int32) &&& Int32.toUInt32 31))))
  let x105 : Int32 := (x104 + (UInt32.toInt32 (Int32.toUInt32 x104 >>> (Int32.toUInt32 (16 : Int32) &&& Int32.toUInt32 31))))
  (x105 &&& (63 : Int32))
theorem sX_bitCount (d : Nat) (x : Int32) (s : zS) : zcall zMs skX (d + 1) 215 [.inl x] s = some (some (.inl (zBc x)), s) := by
  rw [aX_J_bitCount]
  rfl
theorem sM_bitCount (d : Nat) (x : Int32) (s : zS) : zcall zMs skM (d + 1) 215 [.inl x] s = some (some (.inl (zBc x)), s) := by
  rw [aM_J_bitCount]
  rfl
def pc16 (k : Nat) : Nat := k / 1 % 2 + k / 2 % 2 + k / 4 % 2 + k / 8 % 2 + k / 16 % 2 + k / 32 % 2 + k / 64 % 2 + k / 128 % 2 + k / 256 % 2 + k / 512 % 2 + k / 1024 % 2 + k / 2048 % 2 + k / 4096 % 2 + k / 8192 % 2 + k / 16384 % 2 + k / 32768 % 2
theorem zBc_q0 : ∀ a, a < 64 → ∀ b, b < 64 → zBc (nI (0 + (64 * a + b))) = nI (pc16 (0 + (64 * a + b))) := by decide +kernel
theorem zBc_q1 : ∀ a, a < 64 → ∀ b, b < 64 → zBc (nI (4096 + (64 * a + b))) = nI (pc16 (4096 + (64 * a + b))) := by decide +kernel
theorem zBc_q2 : ∀ a, a < 64 → ∀ b, b < 64 → zBc (nI (8192 + (64 * a + b))) = nI (pc16 (8192 + (64 * a + b))) := by decide +kernel
theorem zBc_q3 : ∀ a, a < 64 → ∀ b, b < 64 → zBc (nI (12288 + (64 * a + b))) = nI (pc16 (12288 + (64 * a + b))) := by decide +kernel
theorem zBc_q4 : ∀ a, a < 64 → ∀ b, b < 64 → zBc (nI (16384 + (64 * a + b))) = nI (pc16 (16384 + (64 * a + b))) := by decide +kernel
theorem zBc_q5 : ∀ a, a < 64 → ∀ b, b < 64 → zBc (nI (20480 + (64 * a + b))) = nI (pc16 (20480 + (64 * a + b))) := by decide +kernel
theorem zBc_q6 : ∀ a, a < 64 → ∀ b, b < 64 → zBc (nI (24576 + (64 * a + b))) = nI (pc16 (24576 + (64 * a + b))) := by decide +kernel
theorem zBc_q7 : ∀ a, a < 64 → ∀ b, b < 64 → zBc (nI (28672 + (64 * a + b))) = nI (pc16 (28672 + (64 * a + b))) := by decide +kernel
theorem zBc_q8 : ∀ a, a < 64 → ∀ b, b < 64 → zBc (nI (32768 + (64 * a + b))) = nI (pc16 (32768 + (64 * a + b))) := by decide +kernel
theorem zBc_q9 : ∀ a, a < 64 → ∀ b, b < 64 → zBc (nI (36864 + (64 * a + b))) = nI (pc16 (36864 + (64 * a + b))) := by decide +kernel
theorem zBc_q10 : ∀ a, a < 64 → ∀ b, b < 64 → zBc (nI (40960 + (64 * a + b))) = nI (pc16 (40960 + (64 * a + b))) := by decide +kernel
theorem zBc_q11 : ∀ a, a < 64 → ∀ b, b < 64 → zBc (nI (45056 + (64 * a + b))) = nI (pc16 (45056 + (64 * a + b))) := by decide +kernel
theorem zBc_q12 : ∀ a, a < 64 → ∀ b, b < 64 → zBc (nI (49152 + (64 * a + b))) = nI (pc16 (49152 + (64 * a + b))) := by decide +kernel
theorem zBc_q13 : ∀ a, a < 64 → ∀ b, b < 64 → zBc (nI (53248 + (64 * a + b))) = nI (pc16 (53248 + (64 * a + b))) := by decide +kernel
theorem zBc_q14 : ∀ a, a < 64 → ∀ b, b < 64 → zBc (nI (57344 + (64 * a + b))) = nI (pc16 (57344 + (64 * a + b))) := by decide +kernel
theorem zBc_q15 : ∀ a, a < 64 → ∀ b, b < 64 → zBc (nI (61440 + (64 * a + b))) = nI (pc16 (61440 + (64 * a + b))) := by decide +kernel
theorem zBc_16 (k : Nat) (h : k < 65536) : zBc (nI k) = nI (pc16 k) := by
  have e : k % 4096 = 64 * (k % 4096 / 64) + k % 64 := by omega
  have hc : k / 4096 = 0 ∨ k / 4096 = 1 ∨ k / 4096 = 2 ∨ k / 4096 = 3 ∨ k / 4096 = 4 ∨ k / 4096 = 5 ∨ k / 4096 = 6 ∨ k / 4096 = 7 ∨ k / 4096 = 8 ∨ k / 4096 = 9 ∨ k / 4096 = 10 ∨ k / 4096 = 11 ∨ k / 4096 = 12 ∨ k / 4096 = 13 ∨ k / 4096 = 14 ∨ k / 4096 = 15 := by omega
  rcases hc with hc | hc | hc | hc | hc | hc | hc | hc | hc | hc | hc | hc | hc | hc | hc | hc
  · have := zBc_q0 (k % 4096 / 64) (by omega) (k % 64) (by omega)
    rwa [show 0 + (64 * (k % 4096 / 64) + k % 64) = k by omega] at this
  · have := zBc_q1 (k % 4096 / 64) (by omega) (k % 64) (by omega)
    rwa [show 4096 + (64 * (k % 4096 / 64) + k % 64) = k by omega] at this
  · have := zBc_q2 (k % 4096 / 64) (by omega) (k % 64) (by omega)
    rwa [show 8192 + (64 * (k % 4096 / 64) + k % 64) = k by omega] at this
  · have := zBc_q3 (k % 4096 / 64) (by omega) (k % 64) (by omega)
    rwa [show 12288 + (64 * (k % 4096 / 64) + k % 64) = k by omega] at this
  · have := zBc_q4 (k % 4096 / 64) (by omega) (k % 64) (by omega)
    rwa [show 16384 + (64 * (k % 4096 / 64) + k % 64) = k by omega] at this
  · have := zBc_q5 (k % 4096 / 64) (by omega) (k % 64) (by omega)
    rwa [show 20480 + (64 * (k % 4096 / 64) + k % 64) = k by omega] at this
  · have := zBc_q6 (k % 4096 / 64) (by omega) (k % 64) (by omega)
    rwa [show 24576 + (64 * (k % 4096 / 64) + k % 64) = k by omega] at this
  · have := zBc_q7 (k % 4096 / 64) (by omega) (k % 64) (by omega)
    rwa [show 28672 + (64 * (k % 4096 / 64) + k % 64) = k by omega] at this
  · have := zBc_q8 (k % 4096 / 64) (by omega) (k % 64) (by omega)
    rwa [show 32768 + (64 * (k % 4096 / 64) + k % 64) = k by omega] at this
  · have := zBc_q9 (k % 4096 / 64) (by omega) (k % 64) (by omega)
    rwa [show 36864 + (64 * (k % 4096 / 64) + k % 64) = k by omega] at this
  · have := zBc_q10 (k % 4096 / 64) (by omega) (k % 64) (by omega)
    rwa [show 40960 + (64 * (k % 4096 / 64) + k % 64) = k by omega] at this
  · have := zBc_q11 (k % 4096 / 64) (by omega) (k % 64) (by omega)
    rwa [show 45056 + (64 * (k % 4096 / 64) + k % 64) = k by omega] at this
  · have := zBc_q12 (k % 4096 / 64) (by omega) (k % 64) (by omega)
    rwa [show 49152 + (64 * (k % 4096 / 64) + k % 64) = k by omega] at this
  · have := zBc_q13 (k % 4096 / 64) (by omega) (k % 64) (by omega)
    rwa [show 53248 + (64 * (k % 4096 / 64) + k % 64) = k by omega] at this
  · have := zBc_q14 (k % 4096 / 64) (by omega) (k % 64) (by omega)
    rwa [show 57344 + (64 * (k % 4096 / 64) + k % 64) = k by omega] at this
  · have := zBc_q15 (k % 4096 / 64) (by omega) (k % 64) (by omega)
    rwa [show 61440 + (64 * (k % 4096 / 64) + k % 64) = k by omega] at this
