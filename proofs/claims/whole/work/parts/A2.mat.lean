/-! Printed by wip/game/genmat.py: the signs of a 3x3 matrix. -/
def gC (a : Nat → Nat → Int) (i j : Nat) : Int := a ((i + 1) % 3) ((j + 1) % 3) * a ((i + 2) % 3) ((j + 2) % 3) - a ((i + 1) % 3) ((j + 2) % 3) * a ((i + 2) % 3) ((j + 1) % 3)
theorem g_b6 (x : Int) (h : Nat.testBit 6 (g_sg x) = true) : 0 ≤ x := by
  unfold g_sg at h; split at h
  · exact absurd h (by decide)
  · omega
theorem g_b3 (x : Int) (h : Nat.testBit 3 (g_sg x) = true) : x ≤ 0 := by
  unfold g_sg at h; split at h
  · omega
  · split at h
    · omega
    · exact absurd h (by decide)
theorem g_b4 (x : Int) (h : Nat.testBit 4 (g_sg x) = true) : 0 < x := by
  unfold g_sg at h; split at h
  · exact absurd h (by decide)
  · split at h
    · exact absurd h (by decide)
    · omega
theorem g_b1 (x : Int) (h : Nat.testBit 1 (g_sg x) = true) : x < 0 := by
  unfold g_sg at h; split at h
  · omega
  · split at h
    · exact absurd h (by decide)
    · exact absurd h (by decide)

def g_V (a : Nat → Nat → Int) (v : Nat) : Int := ([(gC a 0 0 + gC a 0 1 + gC a 0 2) + (gC a 1 0 + gC a 1 1 + gC a 1 2) + (gC a 2 0 + gC a 2 1 + gC a 2 2), a 0 0 - a 0 1, a 0 1 - a 0 2, a 0 0 - a 0 2, a 1 0 - a 1 1, a 1 1 - a 1 2, a 1 0 - a 1 2, a 2 0 - a 2 1, a 2 1 - a 2 2, a 2 0 - a 2 2, a 0 0 - a 1 0, a 1 0 - a 2 0, a 0 0 - a 2 0, a 0 1 - a 1 1, a 1 1 - a 2 1, a 0 1 - a 2 1, a 0 2 - a 1 2, a 1 2 - a 2 2, a 0 2 - a 2 2, a 0 0 - a 0 1 - a 1 0 + a 1 1, a 0 1 - a 0 2 - a 1 1 + a 1 2, a 0 0 - a 0 2 - a 1 0 + a 1 2, a 1 0 - a 1 1 - a 2 0 + a 2 1, a 1 1 - a 1 2 - a 2 1 + a 2 2, a 1 0 - a 1 2 - a 2 0 + a 2 2, a 0 0 - a 0 1 - a 2 0 + a 2 1, a 0 1 - a 0 2 - a 2 1 + a 2 2, a 0 0 - a 0 2 - a 2 0 + a 2 2, gC a 0 0 + gC a 0 1 + gC a 0 2, gC a 1 0 + gC a 1 1 + gC a 1 2, gC a 2 0 + gC a 2 1 + gC a 2 2, gC a 0 0 + gC a 1 0 + gC a 2 0, gC a 0 1 + gC a 1 1 + gC a 2 1, gC a 0 2 + gC a 1 2 + gC a 2 2, 1] : List Int).getD v 0
theorem g_x0 (a : Nat → Nat → Int) : (a 0 0 - a 0 1) * 1 + ((a 0 1 - a 0 2) * 1 + (-((a 0 0 - a 0 2) * 1) + (0))) = (0 : Int) := by grind
theorem g_x1 (a : Nat → Nat → Int) : (a 1 0 - a 1 1) * 1 + ((a 1 1 - a 1 2) * 1 + (-((a 1 0 - a 1 2) * 1) + (0))) = (0 : Int) := by grind
theorem g_x2 (a : Nat → Nat → Int) : (a 2 0 - a 2 1) * 1 + ((a 2 1 - a 2 2) * 1 + (-((a 2 0 - a 2 2) * 1) + (0))) = (0 : Int) := by grind
theorem g_x3 (a : Nat → Nat → Int) : (a 0 0 - a 1 0) * 1 + ((a 1 0 - a 2 0) * 1 + (-((a 0 0 - a 2 0) * 1) + (0))) = (0 : Int) := by grind
theorem g_x4 (a : Nat → Nat → Int) : (a 0 1 - a 1 1) * 1 + ((a 1 1 - a 2 1) * 1 + (-((a 0 1 - a 2 1) * 1) + (0))) = (0 : Int) := by grind
theorem g_x5 (a : Nat → Nat → Int) : (a 0 2 - a 1 2) * 1 + ((a 1 2 - a 2 2) * 1 + (-((a 0 2 - a 2 2) * 1) + (0))) = (0 : Int) := by grind
theorem g_x6 (a : Nat → Nat → Int) : (a 0 0 - a 0 1 - a 1 0 + a 1 1) * 1 + (-((a 0 0 - a 0 1) * 1) + ((a 1 0 - a 1 1) * 1 + (0))) = (0 : Int) := by grind
theorem g_x7 (a : Nat → Nat → Int) : (a 0 0 - a 0 1 - a 1 0 + a 1 1) * 1 + (-((a 0 0 - a 1 0) * 1) + ((a 0 1 - a 1 1) * 1 + (0))) = (0 : Int) := by grind
theorem g_x8 (a : Nat → Nat → Int) : (a 0 1 - a 0 2 - a 1 1 + a 1 2) * 1 + (-((a 0 1 - a 0 2) * 1) + ((a 1 1 - a 1 2) * 1 + (0))) = (0 : Int) := by grind
theorem g_x9 (a : Nat → Nat → Int) : (a 0 1 - a 0 2 - a 1 1 + a 1 2) * 1 + (-((a 0 1 - a 1 1) * 1) + ((a 0 2 - a 1 2) * 1 + (0))) = (0 : Int) := by grind
theorem g_x10 (a : Nat → Nat → Int) : (a 0 0 - a 0 2 - a 1 0 + a 1 2) * 1 + (-((a 0 0 - a 0 2) * 1) + ((a 1 0 - a 1 2) * 1 + (0))) = (0 : Int) := by grind
theorem g_x11 (a : Nat → Nat → Int) : (a 0 0 - a 0 2 - a 1 0 + a 1 2) * 1 + (-((a 0 0 - a 1 0) * 1) + ((a 0 2 - a 1 2) * 1 + (0))) = (0 : Int) := by grind
theorem g_x12 (a : Nat → Nat → Int) : (a 1 0 - a 1 1 - a 2 0 + a 2 1) * 1 + (-((a 1 0 - a 1 1) * 1) + ((a 2 0 - a 2 1) * 1 + (0))) = (0 : Int) := by grind
theorem g_x13 (a : Nat → Nat → Int) : (a 1 0 - a 1 1 - a 2 0 + a 2 1) * 1 + (-((a 1 0 - a 2 0) * 1) + ((a 1 1 - a 2 1) * 1 + (0))) = (0 : Int) := by grind
theorem g_x14 (a : Nat → Nat → Int) : (a 1 1 - a 1 2 - a 2 1 + a 2 2) * 1 + (-((a 1 1 - a 1 2) * 1) + ((a 2 1 - a 2 2) * 1 + (0))) = (0 : Int) := by grind
theorem g_x15 (a : Nat → Nat → Int) : (a 1 1 - a 1 2 - a 2 1 + a 2 2) * 1 + (-((a 1 1 - a 2 1) * 1) + ((a 1 2 - a 2 2) * 1 + (0))) = (0 : Int) := by grind
theorem g_x16 (a : Nat → Nat → Int) : (a 1 0 - a 1 2 - a 2 0 + a 2 2) * 1 + (-((a 1 0 - a 1 2) * 1) + ((a 2 0 - a 2 2) * 1 + (0))) = (0 : Int) := by grind
theorem g_x17 (a : Nat → Nat → Int) : (a 1 0 - a 1 2 - a 2 0 + a 2 2) * 1 + (-((a 1 0 - a 2 0) * 1) + ((a 1 2 - a 2 2) * 1 + (0))) = (0 : Int) := by grind
theorem g_x18 (a : Nat → Nat → Int) : (a 0 0 - a 0 1 - a 2 0 + a 2 1) * 1 + (-((a 0 0 - a 0 1) * 1) + ((a 2 0 - a 2 1) * 1 + (0))) = (0 : Int) := by grind
theorem g_x19 (a : Nat → Nat → Int) : (a 0 0 - a 0 1 - a 2 0 + a 2 1) * 1 + (-((a 0 0 - a 2 0) * 1) + ((a 0 1 - a 2 1) * 1 + (0))) = (0 : Int) := by grind
theorem g_x20 (a : Nat → Nat → Int) : (a 0 1 - a 0 2 - a 2 1 + a 2 2) * 1 + (-((a 0 1 - a 0 2) * 1) + ((a 2 1 - a 2 2) * 1 + (0))) = (0 : Int) := by grind
theorem g_x21 (a : Nat → Nat → Int) : (a 0 1 - a 0 2 - a 2 1 + a 2 2) * 1 + (-((a 0 1 - a 2 1) * 1) + ((a 0 2 - a 2 2) * 1 + (0))) = (0 : Int) := by grind
theorem g_x22 (a : Nat → Nat → Int) : (a 0 0 - a 0 2 - a 2 0 + a 2 2) * 1 + (-((a 0 0 - a 0 2) * 1) + ((a 2 0 - a 2 2) * 1 + (0))) = (0 : Int) := by grind
theorem g_x23 (a : Nat → Nat → Int) : (a 0 0 - a 0 2 - a 2 0 + a 2 2) * 1 + (-((a 0 0 - a 2 0) * 1) + ((a 0 2 - a 2 2) * 1 + (0))) = (0 : Int) := by grind
theorem g_x24 (a : Nat → Nat → Int) : (a 0 0 - a 0 1 - a 1 0 + a 1 1) * 1 + ((a 0 1 - a 0 2 - a 1 1 + a 1 2) * 1 + (-((a 0 0 - a 0 2 - a 1 0 + a 1 2) * 1) + (0))) = (0 : Int) := by grind
theorem g_x25 (a : Nat → Nat → Int) : (a 1 0 - a 1 1 - a 2 0 + a 2 1) * 1 + ((a 1 1 - a 1 2 - a 2 1 + a 2 2) * 1 + (-((a 1 0 - a 1 2 - a 2 0 + a 2 2) * 1) + (0))) = (0 : Int) := by grind
theorem g_x26 (a : Nat → Nat → Int) : (a 0 0 - a 0 1 - a 2 0 + a 2 1) * 1 + ((a 0 1 - a 0 2 - a 2 1 + a 2 2) * 1 + (-((a 0 0 - a 0 2 - a 2 0 + a 2 2) * 1) + (0))) = (0 : Int) := by grind
theorem g_x27 (a : Nat → Nat → Int) : (a 0 0 - a 0 1 - a 1 0 + a 1 1) * 1 + ((a 1 0 - a 1 1 - a 2 0 + a 2 1) * 1 + (-((a 0 0 - a 0 1 - a 2 0 + a 2 1) * 1) + (0))) = (0 : Int) := by grind
theorem g_x28 (a : Nat → Nat → Int) : (a 0 1 - a 0 2 - a 1 1 + a 1 2) * 1 + ((a 1 1 - a 1 2 - a 2 1 + a 2 2) * 1 + (-((a 0 1 - a 0 2 - a 2 1 + a 2 2) * 1) + (0))) = (0 : Int) := by grind
theorem g_x29 (a : Nat → Nat → Int) : (a 0 0 - a 0 2 - a 1 0 + a 1 2) * 1 + ((a 1 0 - a 1 2 - a 2 0 + a 2 2) * 1 + (-((a 0 0 - a 0 2 - a 2 0 + a 2 2) * 1) + (0))) = (0 : Int) := by grind
theorem g_x30 (a : Nat → Nat → Int) : ((a 1 1 * a 2 2 - a 1 2 * a 2 1) + (a 1 2 * a 2 0 - a 1 0 * a 2 2) + (a 1 0 * a 2 1 - a 1 1 * a 2 0)) * 1 + (-((a 1 0 - a 1 1) * (a 2 1 - a 2 2)) + ((a 1 1 - a 1 2) * (a 2 0 - a 2 1) + (0))) = (0 : Int) := by grind
theorem g_x31 (a : Nat → Nat → Int) : ((a 1 1 * a 2 2 - a 1 2 * a 2 1) + (a 1 2 * a 2 0 - a 1 0 * a 2 2) + (a 1 0 * a 2 1 - a 1 1 * a 2 0)) * 1 + ((a 1 0 - a 1 1) * (a 1 1 - a 1 2 - a 2 1 + a 2 2) + (-((a 1 1 - a 1 2) * (a 1 0 - a 1 1 - a 2 0 + a 2 1)) + (0))) = (0 : Int) := by grind
theorem g_x32 (a : Nat → Nat → Int) : ((a 1 1 * a 2 2 - a 1 2 * a 2 1) + (a 1 2 * a 2 0 - a 1 0 * a 2 2) + (a 1 0 * a 2 1 - a 1 1 * a 2 0)) * 1 + ((a 2 0 - a 2 1) * (a 1 1 - a 1 2 - a 2 1 + a 2 2) + (-((a 2 1 - a 2 2) * (a 1 0 - a 1 1 - a 2 0 + a 2 1)) + (0))) = (0 : Int) := by grind
theorem g_x33 (a : Nat → Nat → Int) : ((a 1 1 * a 2 2 - a 1 2 * a 2 1) + (a 1 2 * a 2 0 - a 1 0 * a 2 2) + (a 1 0 * a 2 1 - a 1 1 * a 2 0)) * 1 + (-((a 1 0 - a 1 1) * (a 2 0 - a 2 2)) + ((a 1 0 - a 1 2) * (a 2 0 - a 2 1) + (0))) = (0 : Int) := by grind
theorem g_x34 (a : Nat → Nat → Int) : ((a 1 1 * a 2 2 - a 1 2 * a 2 1) + (a 1 2 * a 2 0 - a 1 0 * a 2 2) + (a 1 0 * a 2 1 - a 1 1 * a 2 0)) * 1 + ((a 1 0 - a 1 1) * (a 1 0 - a 1 2 - a 2 0 + a 2 2) + (-((a 1 0 - a 1 2) * (a 1 0 - a 1 1 - a 2 0 + a 2 1)) + (0))) = (0 : Int) := by grind
theorem g_x35 (a : Nat → Nat → Int) : ((a 1 1 * a 2 2 - a 1 2 * a 2 1) + (a 1 2 * a 2 0 - a 1 0 * a 2 2) + (a 1 0 * a 2 1 - a 1 1 * a 2 0)) * 1 + ((a 2 0 - a 2 1) * (a 1 0 - a 1 2 - a 2 0 + a 2 2) + (-((a 2 0 - a 2 2) * (a 1 0 - a 1 1 - a 2 0 + a 2 1)) + (0))) = (0 : Int) := by grind
theorem g_x36 (a : Nat → Nat → Int) : ((a 1 1 * a 2 2 - a 1 2 * a 2 1) + (a 1 2 * a 2 0 - a 1 0 * a 2 2) + (a 1 0 * a 2 1 - a 1 1 * a 2 0)) * 1 + ((a 1 1 - a 1 2) * (a 2 0 - a 2 2) + (-((a 1 0 - a 1 2) * (a 2 1 - a 2 2)) + (0))) = (0 : Int) := by grind
theorem g_x37 (a : Nat → Nat → Int) : ((a 1 1 * a 2 2 - a 1 2 * a 2 1) + (a 1 2 * a 2 0 - a 1 0 * a 2 2) + (a 1 0 * a 2 1 - a 1 1 * a 2 0)) * 1 + (-((a 1 1 - a 1 2) * (a 1 0 - a 1 2 - a 2 0 + a 2 2)) + ((a 1 0 - a 1 2) * (a 1 1 - a 1 2 - a 2 1 + a 2 2) + (0))) = (0 : Int) := by grind
theorem g_x38 (a : Nat → Nat → Int) : ((a 1 1 * a 2 2 - a 1 2 * a 2 1) + (a 1 2 * a 2 0 - a 1 0 * a 2 2) + (a 1 0 * a 2 1 - a 1 1 * a 2 0)) * 1 + (-((a 2 1 - a 2 2) * (a 1 0 - a 1 2 - a 2 0 + a 2 2)) + ((a 2 0 - a 2 2) * (a 1 1 - a 1 2 - a 2 1 + a 2 2) + (0))) = (0 : Int) := by grind
theorem g_x39 (a : Nat → Nat → Int) : ((a 1 1 * a 2 2 - a 1 2 * a 2 1) + (a 2 1 * a 0 2 - a 2 2 * a 0 1) + (a 0 1 * a 1 2 - a 0 2 * a 1 1)) * 1 + (-((a 0 1 - a 1 1) * (a 1 2 - a 2 2)) + ((a 1 1 - a 2 1) * (a 0 2 - a 1 2) + (0))) = (0 : Int) := by grind
theorem g_x40 (a : Nat → Nat → Int) : ((a 1 1 * a 2 2 - a 1 2 * a 2 1) + (a 2 1 * a 0 2 - a 2 2 * a 0 1) + (a 0 1 * a 1 2 - a 0 2 * a 1 1)) * 1 + ((a 0 1 - a 1 1) * (a 1 1 - a 1 2 - a 2 1 + a 2 2) + (-((a 1 1 - a 2 1) * (a 0 1 - a 0 2 - a 1 1 + a 1 2)) + (0))) = (0 : Int) := by grind
theorem g_x41 (a : Nat → Nat → Int) : ((a 1 1 * a 2 2 - a 1 2 * a 2 1) + (a 2 1 * a 0 2 - a 2 2 * a 0 1) + (a 0 1 * a 1 2 - a 0 2 * a 1 1)) * 1 + ((a 0 2 - a 1 2) * (a 1 1 - a 1 2 - a 2 1 + a 2 2) + (-((a 1 2 - a 2 2) * (a 0 1 - a 0 2 - a 1 1 + a 1 2)) + (0))) = (0 : Int) := by grind
theorem g_x42 (a : Nat → Nat → Int) : ((a 1 1 * a 2 2 - a 1 2 * a 2 1) + (a 2 1 * a 0 2 - a 2 2 * a 0 1) + (a 0 1 * a 1 2 - a 0 2 * a 1 1)) * 1 + (-((a 0 1 - a 1 1) * (a 0 2 - a 2 2)) + ((a 0 1 - a 2 1) * (a 0 2 - a 1 2) + (0))) = (0 : Int) := by grind
theorem g_x43 (a : Nat → Nat → Int) : ((a 1 1 * a 2 2 - a 1 2 * a 2 1) + (a 2 1 * a 0 2 - a 2 2 * a 0 1) + (a 0 1 * a 1 2 - a 0 2 * a 1 1)) * 1 + ((a 0 1 - a 1 1) * (a 0 1 - a 0 2 - a 2 1 + a 2 2) + (-((a 0 1 - a 2 1) * (a 0 1 - a 0 2 - a 1 1 + a 1 2)) + (0))) = (0 : Int) := by grind
theorem g_x44 (a : Nat → Nat → Int) : ((a 1 1 * a 2 2 - a 1 2 * a 2 1) + (a 2 1 * a 0 2 - a 2 2 * a 0 1) + (a 0 1 * a 1 2 - a 0 2 * a 1 1)) * 1 + ((a 0 2 - a 1 2) * (a 0 1 - a 0 2 - a 2 1 + a 2 2) + (-((a 0 2 - a 2 2) * (a 0 1 - a 0 2 - a 1 1 + a 1 2)) + (0))) = (0 : Int) := by grind
theorem g_x45 (a : Nat → Nat → Int) : ((a 1 1 * a 2 2 - a 1 2 * a 2 1) + (a 2 1 * a 0 2 - a 2 2 * a 0 1) + (a 0 1 * a 1 2 - a 0 2 * a 1 1)) * 1 + ((a 1 1 - a 2 1) * (a 0 2 - a 2 2) + (-((a 0 1 - a 2 1) * (a 1 2 - a 2 2)) + (0))) = (0 : Int) := by grind
theorem g_x46 (a : Nat → Nat → Int) : ((a 1 1 * a 2 2 - a 1 2 * a 2 1) + (a 2 1 * a 0 2 - a 2 2 * a 0 1) + (a 0 1 * a 1 2 - a 0 2 * a 1 1)) * 1 + (-((a 1 1 - a 2 1) * (a 0 1 - a 0 2 - a 2 1 + a 2 2)) + ((a 0 1 - a 2 1) * (a 1 1 - a 1 2 - a 2 1 + a 2 2) + (0))) = (0 : Int) := by grind
theorem g_x47 (a : Nat → Nat → Int) : ((a 1 1 * a 2 2 - a 1 2 * a 2 1) + (a 2 1 * a 0 2 - a 2 2 * a 0 1) + (a 0 1 * a 1 2 - a 0 2 * a 1 1)) * 1 + (-((a 1 2 - a 2 2) * (a 0 1 - a 0 2 - a 2 1 + a 2 2)) + ((a 0 2 - a 2 2) * (a 1 1 - a 1 2 - a 2 1 + a 2 2) + (0))) = (0 : Int) := by grind
theorem g_x48 (a : Nat → Nat → Int) : ((a 2 1 * a 0 2 - a 2 2 * a 0 1) + (a 2 2 * a 0 0 - a 2 0 * a 0 2) + (a 2 0 * a 0 1 - a 2 1 * a 0 0)) * 1 + (-((a 2 0 - a 2 1) * (a 0 1 - a 0 2)) + ((a 2 1 - a 2 2) * (a 0 0 - a 0 1) + (0))) = (0 : Int) := by grind
theorem g_x49 (a : Nat → Nat → Int) : ((a 2 1 * a 0 2 - a 2 2 * a 0 1) + (a 2 2 * a 0 0 - a 2 0 * a 0 2) + (a 2 0 * a 0 1 - a 2 1 * a 0 0)) * 1 + (-((a 2 0 - a 2 1) * (a 0 1 - a 0 2 - a 2 1 + a 2 2)) + ((a 2 1 - a 2 2) * (a 0 0 - a 0 1 - a 2 0 + a 2 1) + (0))) = (0 : Int) := by grind
theorem g_x50 (a : Nat → Nat → Int) : ((a 2 1 * a 0 2 - a 2 2 * a 0 1) + (a 2 2 * a 0 0 - a 2 0 * a 0 2) + (a 2 0 * a 0 1 - a 2 1 * a 0 0)) * 1 + (-((a 0 0 - a 0 1) * (a 0 1 - a 0 2 - a 2 1 + a 2 2)) + ((a 0 1 - a 0 2) * (a 0 0 - a 0 1 - a 2 0 + a 2 1) + (0))) = (0 : Int) := by grind
theorem g_x51 (a : Nat → Nat → Int) : ((a 2 1 * a 0 2 - a 2 2 * a 0 1) + (a 2 2 * a 0 0 - a 2 0 * a 0 2) + (a 2 0 * a 0 1 - a 2 1 * a 0 0)) * 1 + (-((a 2 0 - a 2 1) * (a 0 0 - a 0 2)) + ((a 2 0 - a 2 2) * (a 0 0 - a 0 1) + (0))) = (0 : Int) := by grind
theorem g_x52 (a : Nat → Nat → Int) : ((a 2 1 * a 0 2 - a 2 2 * a 0 1) + (a 2 2 * a 0 0 - a 2 0 * a 0 2) + (a 2 0 * a 0 1 - a 2 1 * a 0 0)) * 1 + (-((a 2 0 - a 2 1) * (a 0 0 - a 0 2 - a 2 0 + a 2 2)) + ((a 2 0 - a 2 2) * (a 0 0 - a 0 1 - a 2 0 + a 2 1) + (0))) = (0 : Int) := by grind
theorem g_x53 (a : Nat → Nat → Int) : ((a 2 1 * a 0 2 - a 2 2 * a 0 1) + (a 2 2 * a 0 0 - a 2 0 * a 0 2) + (a 2 0 * a 0 1 - a 2 1 * a 0 0)) * 1 + (-((a 0 0 - a 0 1) * (a 0 0 - a 0 2 - a 2 0 + a 2 2)) + ((a 0 0 - a 0 2) * (a 0 0 - a 0 1 - a 2 0 + a 2 1) + (0))) = (0 : Int) := by grind
theorem g_x54 (a : Nat → Nat → Int) : ((a 2 1 * a 0 2 - a 2 2 * a 0 1) + (a 2 2 * a 0 0 - a 2 0 * a 0 2) + (a 2 0 * a 0 1 - a 2 1 * a 0 0)) * 1 + ((a 2 1 - a 2 2) * (a 0 0 - a 0 2) + (-((a 2 0 - a 2 2) * (a 0 1 - a 0 2)) + (0))) = (0 : Int) := by grind
theorem g_x55 (a : Nat → Nat → Int) : ((a 2 1 * a 0 2 - a 2 2 * a 0 1) + (a 2 2 * a 0 0 - a 2 0 * a 0 2) + (a 2 0 * a 0 1 - a 2 1 * a 0 0)) * 1 + ((a 2 1 - a 2 2) * (a 0 0 - a 0 2 - a 2 0 + a 2 2) + (-((a 2 0 - a 2 2) * (a 0 1 - a 0 2 - a 2 1 + a 2 2)) + (0))) = (0 : Int) := by grind
theorem g_x56 (a : Nat → Nat → Int) : ((a 2 1 * a 0 2 - a 2 2 * a 0 1) + (a 2 2 * a 0 0 - a 2 0 * a 0 2) + (a 2 0 * a 0 1 - a 2 1 * a 0 0)) * 1 + ((a 0 1 - a 0 2) * (a 0 0 - a 0 2 - a 2 0 + a 2 2) + (-((a 0 0 - a 0 2) * (a 0 1 - a 0 2 - a 2 1 + a 2 2)) + (0))) = (0 : Int) := by grind
theorem g_x57 (a : Nat → Nat → Int) : ((a 1 2 * a 2 0 - a 1 0 * a 2 2) + (a 2 2 * a 0 0 - a 2 0 * a 0 2) + (a 0 2 * a 1 0 - a 0 0 * a 1 2)) * 1 + (-((a 0 2 - a 1 2) * (a 1 0 - a 2 0)) + ((a 1 2 - a 2 2) * (a 0 0 - a 1 0) + (0))) = (0 : Int) := by grind
theorem g_x58 (a : Nat → Nat → Int) : ((a 1 2 * a 2 0 - a 1 0 * a 2 2) + (a 2 2 * a 0 0 - a 2 0 * a 0 2) + (a 0 2 * a 1 0 - a 0 0 * a 1 2)) * 1 + (-((a 0 2 - a 1 2) * (a 1 0 - a 1 2 - a 2 0 + a 2 2)) + ((a 1 2 - a 2 2) * (a 0 0 - a 0 2 - a 1 0 + a 1 2) + (0))) = (0 : Int) := by grind
theorem g_x59 (a : Nat → Nat → Int) : ((a 1 2 * a 2 0 - a 1 0 * a 2 2) + (a 2 2 * a 0 0 - a 2 0 * a 0 2) + (a 0 2 * a 1 0 - a 0 0 * a 1 2)) * 1 + (-((a 0 0 - a 1 0) * (a 1 0 - a 1 2 - a 2 0 + a 2 2)) + ((a 1 0 - a 2 0) * (a 0 0 - a 0 2 - a 1 0 + a 1 2) + (0))) = (0 : Int) := by grind
theorem g_x60 (a : Nat → Nat → Int) : ((a 1 2 * a 2 0 - a 1 0 * a 2 2) + (a 2 2 * a 0 0 - a 2 0 * a 0 2) + (a 0 2 * a 1 0 - a 0 0 * a 1 2)) * 1 + (-((a 0 2 - a 1 2) * (a 0 0 - a 2 0)) + ((a 0 2 - a 2 2) * (a 0 0 - a 1 0) + (0))) = (0 : Int) := by grind
theorem g_x61 (a : Nat → Nat → Int) : ((a 1 2 * a 2 0 - a 1 0 * a 2 2) + (a 2 2 * a 0 0 - a 2 0 * a 0 2) + (a 0 2 * a 1 0 - a 0 0 * a 1 2)) * 1 + (-((a 0 2 - a 1 2) * (a 0 0 - a 0 2 - a 2 0 + a 2 2)) + ((a 0 2 - a 2 2) * (a 0 0 - a 0 2 - a 1 0 + a 1 2) + (0))) = (0 : Int) := by grind
theorem g_x62 (a : Nat → Nat → Int) : ((a 1 2 * a 2 0 - a 1 0 * a 2 2) + (a 2 2 * a 0 0 - a 2 0 * a 0 2) + (a 0 2 * a 1 0 - a 0 0 * a 1 2)) * 1 + (-((a 0 0 - a 1 0) * (a 0 0 - a 0 2 - a 2 0 + a 2 2)) + ((a 0 0 - a 2 0) * (a 0 0 - a 0 2 - a 1 0 + a 1 2) + (0))) = (0 : Int) := by grind
theorem g_x63 (a : Nat → Nat → Int) : ((a 1 2 * a 2 0 - a 1 0 * a 2 2) + (a 2 2 * a 0 0 - a 2 0 * a 0 2) + (a 0 2 * a 1 0 - a 0 0 * a 1 2)) * 1 + ((a 1 2 - a 2 2) * (a 0 0 - a 2 0) + (-((a 0 2 - a 2 2) * (a 1 0 - a 2 0)) + (0))) = (0 : Int) := by grind
theorem g_x64 (a : Nat → Nat → Int) : ((a 1 2 * a 2 0 - a 1 0 * a 2 2) + (a 2 2 * a 0 0 - a 2 0 * a 0 2) + (a 0 2 * a 1 0 - a 0 0 * a 1 2)) * 1 + ((a 1 2 - a 2 2) * (a 0 0 - a 0 2 - a 2 0 + a 2 2) + (-((a 0 2 - a 2 2) * (a 1 0 - a 1 2 - a 2 0 + a 2 2)) + (0))) = (0 : Int) := by grind
theorem g_x65 (a : Nat → Nat → Int) : ((a 1 2 * a 2 0 - a 1 0 * a 2 2) + (a 2 2 * a 0 0 - a 2 0 * a 0 2) + (a 0 2 * a 1 0 - a 0 0 * a 1 2)) * 1 + ((a 1 0 - a 2 0) * (a 0 0 - a 0 2 - a 2 0 + a 2 2) + (-((a 0 0 - a 2 0) * (a 1 0 - a 1 2 - a 2 0 + a 2 2)) + (0))) = (0 : Int) := by grind
theorem g_x66 (a : Nat → Nat → Int) : ((a 0 1 * a 1 2 - a 0 2 * a 1 1) + (a 0 2 * a 1 0 - a 0 0 * a 1 2) + (a 0 0 * a 1 1 - a 0 1 * a 1 0)) * 1 + (-((a 0 0 - a 0 1) * (a 1 1 - a 1 2)) + ((a 0 1 - a 0 2) * (a 1 0 - a 1 1) + (0))) = (0 : Int) := by grind
theorem g_x67 (a : Nat → Nat → Int) : ((a 0 1 * a 1 2 - a 0 2 * a 1 1) + (a 0 2 * a 1 0 - a 0 0 * a 1 2) + (a 0 0 * a 1 1 - a 0 1 * a 1 0)) * 1 + ((a 0 0 - a 0 1) * (a 0 1 - a 0 2 - a 1 1 + a 1 2) + (-((a 0 1 - a 0 2) * (a 0 0 - a 0 1 - a 1 0 + a 1 1)) + (0))) = (0 : Int) := by grind
theorem g_x68 (a : Nat → Nat → Int) : ((a 0 1 * a 1 2 - a 0 2 * a 1 1) + (a 0 2 * a 1 0 - a 0 0 * a 1 2) + (a 0 0 * a 1 1 - a 0 1 * a 1 0)) * 1 + ((a 1 0 - a 1 1) * (a 0 1 - a 0 2 - a 1 1 + a 1 2) + (-((a 1 1 - a 1 2) * (a 0 0 - a 0 1 - a 1 0 + a 1 1)) + (0))) = (0 : Int) := by grind
theorem g_x69 (a : Nat → Nat → Int) : ((a 0 1 * a 1 2 - a 0 2 * a 1 1) + (a 0 2 * a 1 0 - a 0 0 * a 1 2) + (a 0 0 * a 1 1 - a 0 1 * a 1 0)) * 1 + (-((a 0 0 - a 0 1) * (a 1 0 - a 1 2)) + ((a 0 0 - a 0 2) * (a 1 0 - a 1 1) + (0))) = (0 : Int) := by grind
theorem g_x70 (a : Nat → Nat → Int) : ((a 0 1 * a 1 2 - a 0 2 * a 1 1) + (a 0 2 * a 1 0 - a 0 0 * a 1 2) + (a 0 0 * a 1 1 - a 0 1 * a 1 0)) * 1 + ((a 0 0 - a 0 1) * (a 0 0 - a 0 2 - a 1 0 + a 1 2) + (-((a 0 0 - a 0 2) * (a 0 0 - a 0 1 - a 1 0 + a 1 1)) + (0))) = (0 : Int) := by grind
theorem g_x71 (a : Nat → Nat → Int) : ((a 0 1 * a 1 2 - a 0 2 * a 1 1) + (a 0 2 * a 1 0 - a 0 0 * a 1 2) + (a 0 0 * a 1 1 - a 0 1 * a 1 0)) * 1 + ((a 1 0 - a 1 1) * (a 0 0 - a 0 2 - a 1 0 + a 1 2) + (-((a 1 0 - a 1 2) * (a 0 0 - a 0 1 - a 1 0 + a 1 1)) + (0))) = (0 : Int) := by grind
theorem g_x72 (a : Nat → Nat → Int) : ((a 0 1 * a 1 2 - a 0 2 * a 1 1) + (a 0 2 * a 1 0 - a 0 0 * a 1 2) + (a 0 0 * a 1 1 - a 0 1 * a 1 0)) * 1 + ((a 0 1 - a 0 2) * (a 1 0 - a 1 2) + (-((a 0 0 - a 0 2) * (a 1 1 - a 1 2)) + (0))) = (0 : Int) := by grind
theorem g_x73 (a : Nat → Nat → Int) : ((a 0 1 * a 1 2 - a 0 2 * a 1 1) + (a 0 2 * a 1 0 - a 0 0 * a 1 2) + (a 0 0 * a 1 1 - a 0 1 * a 1 0)) * 1 + (-((a 0 1 - a 0 2) * (a 0 0 - a 0 2 - a 1 0 + a 1 2)) + ((a 0 0 - a 0 2) * (a 0 1 - a 0 2 - a 1 1 + a 1 2) + (0))) = (0 : Int) := by grind
theorem g_x74 (a : Nat → Nat → Int) : ((a 0 1 * a 1 2 - a 0 2 * a 1 1) + (a 0 2 * a 1 0 - a 0 0 * a 1 2) + (a 0 0 * a 1 1 - a 0 1 * a 1 0)) * 1 + (-((a 1 1 - a 1 2) * (a 0 0 - a 0 2 - a 1 0 + a 1 2)) + ((a 1 0 - a 1 2) * (a 0 1 - a 0 2 - a 1 1 + a 1 2) + (0))) = (0 : Int) := by grind
theorem g_x75 (a : Nat → Nat → Int) : ((a 1 0 * a 2 1 - a 1 1 * a 2 0) + (a 2 0 * a 0 1 - a 2 1 * a 0 0) + (a 0 0 * a 1 1 - a 0 1 * a 1 0)) * 1 + (-((a 0 0 - a 1 0) * (a 1 1 - a 2 1)) + ((a 1 0 - a 2 0) * (a 0 1 - a 1 1) + (0))) = (0 : Int) := by grind
theorem g_x76 (a : Nat → Nat → Int) : ((a 1 0 * a 2 1 - a 1 1 * a 2 0) + (a 2 0 * a 0 1 - a 2 1 * a 0 0) + (a 0 0 * a 1 1 - a 0 1 * a 1 0)) * 1 + ((a 0 0 - a 1 0) * (a 1 0 - a 1 1 - a 2 0 + a 2 1) + (-((a 1 0 - a 2 0) * (a 0 0 - a 0 1 - a 1 0 + a 1 1)) + (0))) = (0 : Int) := by grind
theorem g_x77 (a : Nat → Nat → Int) : ((a 1 0 * a 2 1 - a 1 1 * a 2 0) + (a 2 0 * a 0 1 - a 2 1 * a 0 0) + (a 0 0 * a 1 1 - a 0 1 * a 1 0)) * 1 + ((a 0 1 - a 1 1) * (a 1 0 - a 1 1 - a 2 0 + a 2 1) + (-((a 1 1 - a 2 1) * (a 0 0 - a 0 1 - a 1 0 + a 1 1)) + (0))) = (0 : Int) := by grind
theorem g_x78 (a : Nat → Nat → Int) : ((a 1 0 * a 2 1 - a 1 1 * a 2 0) + (a 2 0 * a 0 1 - a 2 1 * a 0 0) + (a 0 0 * a 1 1 - a 0 1 * a 1 0)) * 1 + (-((a 0 0 - a 1 0) * (a 0 1 - a 2 1)) + ((a 0 0 - a 2 0) * (a 0 1 - a 1 1) + (0))) = (0 : Int) := by grind
theorem g_x79 (a : Nat → Nat → Int) : ((a 1 0 * a 2 1 - a 1 1 * a 2 0) + (a 2 0 * a 0 1 - a 2 1 * a 0 0) + (a 0 0 * a 1 1 - a 0 1 * a 1 0)) * 1 + ((a 0 0 - a 1 0) * (a 0 0 - a 0 1 - a 2 0 + a 2 1) + (-((a 0 0 - a 2 0) * (a 0 0 - a 0 1 - a 1 0 + a 1 1)) + (0))) = (0 : Int) := by grind
theorem g_x80 (a : Nat → Nat → Int) : ((a 1 0 * a 2 1 - a 1 1 * a 2 0) + (a 2 0 * a 0 1 - a 2 1 * a 0 0) + (a 0 0 * a 1 1 - a 0 1 * a 1 0)) * 1 + ((a 0 1 - a 1 1) * (a 0 0 - a 0 1 - a 2 0 + a 2 1) + (-((a 0 1 - a 2 1) * (a 0 0 - a 0 1 - a 1 0 + a 1 1)) + (0))) = (0 : Int) := by grind
theorem g_x81 (a : Nat → Nat → Int) : ((a 1 0 * a 2 1 - a 1 1 * a 2 0) + (a 2 0 * a 0 1 - a 2 1 * a 0 0) + (a 0 0 * a 1 1 - a 0 1 * a 1 0)) * 1 + ((a 1 0 - a 2 0) * (a 0 1 - a 2 1) + (-((a 0 0 - a 2 0) * (a 1 1 - a 2 1)) + (0))) = (0 : Int) := by grind
theorem g_x82 (a : Nat → Nat → Int) : ((a 1 0 * a 2 1 - a 1 1 * a 2 0) + (a 2 0 * a 0 1 - a 2 1 * a 0 0) + (a 0 0 * a 1 1 - a 0 1 * a 1 0)) * 1 + (-((a 1 0 - a 2 0) * (a 0 0 - a 0 1 - a 2 0 + a 2 1)) + ((a 0 0 - a 2 0) * (a 1 0 - a 1 1 - a 2 0 + a 2 1) + (0))) = (0 : Int) := by grind
theorem g_x83 (a : Nat → Nat → Int) : ((a 1 0 * a 2 1 - a 1 1 * a 2 0) + (a 2 0 * a 0 1 - a 2 1 * a 0 0) + (a 0 0 * a 1 1 - a 0 1 * a 1 0)) * 1 + (-((a 1 1 - a 2 1) * (a 0 0 - a 0 1 - a 2 0 + a 2 1)) + ((a 0 1 - a 2 1) * (a 1 0 - a 1 1 - a 2 0 + a 2 1) + (0))) = (0 : Int) := by grind
theorem g_x84 (a : Nat → Nat → Int) : ((a 1 1 * a 2 2 - a 1 2 * a 2 1) + (a 1 2 * a 2 0 - a 1 0 * a 2 2) + (a 1 0 * a 2 1 - a 1 1 * a 2 0)) * (a 0 0 - a 0 1) + (((a 2 1 * a 0 2 - a 2 2 * a 0 1) + (a 2 2 * a 0 0 - a 2 0 * a 0 2) + (a 2 0 * a 0 1 - a 2 1 * a 0 0)) * (a 1 0 - a 1 1) + (((a 0 1 * a 1 2 - a 0 2 * a 1 1) + (a 0 2 * a 1 0 - a 0 0 * a 1 2) + (a 0 0 * a 1 1 - a 0 1 * a 1 0)) * (a 2 0 - a 2 1) + (0))) = (0 : Int) := by grind
theorem g_x85 (a : Nat → Nat → Int) : ((a 1 1 * a 2 2 - a 1 2 * a 2 1) + (a 2 1 * a 0 2 - a 2 2 * a 0 1) + (a 0 1 * a 1 2 - a 0 2 * a 1 1)) * (a 0 0 - a 1 0) + (((a 1 2 * a 2 0 - a 1 0 * a 2 2) + (a 2 2 * a 0 0 - a 2 0 * a 0 2) + (a 0 2 * a 1 0 - a 0 0 * a 1 2)) * (a 0 1 - a 1 1) + (((a 1 0 * a 2 1 - a 1 1 * a 2 0) + (a 2 0 * a 0 1 - a 2 1 * a 0 0) + (a 0 0 * a 1 1 - a 0 1 * a 1 0)) * (a 0 2 - a 1 2) + (0))) = (0 : Int) := by grind
theorem g_x86 (a : Nat → Nat → Int) : ((a 1 1 * a 2 2 - a 1 2 * a 2 1) + (a 1 2 * a 2 0 - a 1 0 * a 2 2) + (a 1 0 * a 2 1 - a 1 1 * a 2 0)) * (a 0 1 - a 0 2) + (((a 2 1 * a 0 2 - a 2 2 * a 0 1) + (a 2 2 * a 0 0 - a 2 0 * a 0 2) + (a 2 0 * a 0 1 - a 2 1 * a 0 0)) * (a 1 1 - a 1 2) + (((a 0 1 * a 1 2 - a 0 2 * a 1 1) + (a 0 2 * a 1 0 - a 0 0 * a 1 2) + (a 0 0 * a 1 1 - a 0 1 * a 1 0)) * (a 2 1 - a 2 2) + (0))) = (0 : Int) := by grind
theorem g_x87 (a : Nat → Nat → Int) : ((a 1 1 * a 2 2 - a 1 2 * a 2 1) + (a 2 1 * a 0 2 - a 2 2 * a 0 1) + (a 0 1 * a 1 2 - a 0 2 * a 1 1)) * (a 1 0 - a 2 0) + (((a 1 2 * a 2 0 - a 1 0 * a 2 2) + (a 2 2 * a 0 0 - a 2 0 * a 0 2) + (a 0 2 * a 1 0 - a 0 0 * a 1 2)) * (a 1 1 - a 2 1) + (((a 1 0 * a 2 1 - a 1 1 * a 2 0) + (a 2 0 * a 0 1 - a 2 1 * a 0 0) + (a 0 0 * a 1 1 - a 0 1 * a 1 0)) * (a 1 2 - a 2 2) + (0))) = (0 : Int) := by grind
theorem g_x88 (a : Nat → Nat → Int) : ((a 1 1 * a 2 2 - a 1 2 * a 2 1) + (a 1 2 * a 2 0 - a 1 0 * a 2 2) + (a 1 0 * a 2 1 - a 1 1 * a 2 0)) * (a 0 0 - a 0 2) + (((a 2 1 * a 0 2 - a 2 2 * a 0 1) + (a 2 2 * a 0 0 - a 2 0 * a 0 2) + (a 2 0 * a 0 1 - a 2 1 * a 0 0)) * (a 1 0 - a 1 2) + (((a 0 1 * a 1 2 - a 0 2 * a 1 1) + (a 0 2 * a 1 0 - a 0 0 * a 1 2) + (a 0 0 * a 1 1 - a 0 1 * a 1 0)) * (a 2 0 - a 2 2) + (0))) = (0 : Int) := by grind
theorem g_x89 (a : Nat → Nat → Int) : ((a 1 1 * a 2 2 - a 1 2 * a 2 1) + (a 2 1 * a 0 2 - a 2 2 * a 0 1) + (a 0 1 * a 1 2 - a 0 2 * a 1 1)) * (a 0 0 - a 2 0) + (((a 1 2 * a 2 0 - a 1 0 * a 2 2) + (a 2 2 * a 0 0 - a 2 0 * a 0 2) + (a 0 2 * a 1 0 - a 0 0 * a 1 2)) * (a 0 1 - a 2 1) + (((a 1 0 * a 2 1 - a 1 1 * a 2 0) + (a 2 0 * a 0 1 - a 2 1 * a 0 0) + (a 0 0 * a 1 1 - a 0 1 * a 1 0)) * (a 0 2 - a 2 2) + (0))) = (0 : Int) := by grind
theorem g_x90 (a : Nat → Nat → Int) : (((a 1 1 * a 2 2 - a 1 2 * a 2 1) + (a 1 2 * a 2 0 - a 1 0 * a 2 2) + (a 1 0 * a 2 1 - a 1 1 * a 2 0)) + ((a 2 1 * a 0 2 - a 2 2 * a 0 1) + (a 2 2 * a 0 0 - a 2 0 * a 0 2) + (a 2 0 * a 0 1 - a 2 1 * a 0 0)) + ((a 0 1 * a 1 2 - a 0 2 * a 1 1) + (a 0 2 * a 1 0 - a 0 0 * a 1 2) + (a 0 0 * a 1 1 - a 0 1 * a 1 0))) * 1 + (-(((a 1 1 * a 2 2 - a 1 2 * a 2 1) + (a 1 2 * a 2 0 - a 1 0 * a 2 2) + (a 1 0 * a 2 1 - a 1 1 * a 2 0)) * 1) + (-(((a 2 1 * a 0 2 - a 2 2 * a 0 1) + (a 2 2 * a 0 0 - a 2 0 * a 0 2) + (a 2 0 * a 0 1 - a 2 1 * a 0 0)) * 1) + (-(((a 0 1 * a 1 2 - a 0 2 * a 1 1) + (a 0 2 * a 1 0 - a 0 0 * a 1 2) + (a 0 0 * a 1 1 - a 0 1 * a 1 0)) * 1) + (0)))) = (0 : Int) := by grind
theorem g_x91 (a : Nat → Nat → Int) : (((a 1 1 * a 2 2 - a 1 2 * a 2 1) + (a 1 2 * a 2 0 - a 1 0 * a 2 2) + (a 1 0 * a 2 1 - a 1 1 * a 2 0)) + ((a 2 1 * a 0 2 - a 2 2 * a 0 1) + (a 2 2 * a 0 0 - a 2 0 * a 0 2) + (a 2 0 * a 0 1 - a 2 1 * a 0 0)) + ((a 0 1 * a 1 2 - a 0 2 * a 1 1) + (a 0 2 * a 1 0 - a 0 0 * a 1 2) + (a 0 0 * a 1 1 - a 0 1 * a 1 0))) * 1 + (-(((a 1 1 * a 2 2 - a 1 2 * a 2 1) + (a 2 1 * a 0 2 - a 2 2 * a 0 1) + (a 0 1 * a 1 2 - a 0 2 * a 1 1)) * 1) + (-(((a 1 2 * a 2 0 - a 1 0 * a 2 2) + (a 2 2 * a 0 0 - a 2 0 * a 0 2) + (a 0 2 * a 1 0 - a 0 0 * a 1 2)) * 1) + (-(((a 1 0 * a 2 1 - a 1 1 * a 2 0) + (a 2 0 * a 0 1 - a 2 1 * a 0 0) + (a 0 0 * a 1 1 - a 0 1 * a 1 0)) * 1) + (0)))) = (0 : Int) := by grind
theorem g_x92 (a : Nat → Nat → Int) : (((a 1 1 * a 2 2 - a 1 2 * a 2 1) + (a 1 2 * a 2 0 - a 1 0 * a 2 2) + (a 1 0 * a 2 1 - a 1 1 * a 2 0)) + ((a 2 1 * a 0 2 - a 2 2 * a 0 1) + (a 2 2 * a 0 0 - a 2 0 * a 0 2) + (a 2 0 * a 0 1 - a 2 1 * a 0 0)) + ((a 0 1 * a 1 2 - a 0 2 * a 1 1) + (a 0 2 * a 1 0 - a 0 0 * a 1 2) + (a 0 0 * a 1 1 - a 0 1 * a 1 0))) * (a 0 0 - a 0 1) + (-(((a 2 1 * a 0 2 - a 2 2 * a 0 1) + (a 2 2 * a 0 0 - a 2 0 * a 0 2) + (a 2 0 * a 0 1 - a 2 1 * a 0 0)) * (a 0 0 - a 0 1 - a 1 0 + a 1 1)) + (-(((a 0 1 * a 1 2 - a 0 2 * a 1 1) + (a 0 2 * a 1 0 - a 0 0 * a 1 2) + (a 0 0 * a 1 1 - a 0 1 * a 1 0)) * (a 0 0 - a 0 1 - a 2 0 + a 2 1)) + (0))) = (0 : Int) := by grind
theorem g_x93 (a : Nat → Nat → Int) : (((a 1 1 * a 2 2 - a 1 2 * a 2 1) + (a 1 2 * a 2 0 - a 1 0 * a 2 2) + (a 1 0 * a 2 1 - a 1 1 * a 2 0)) + ((a 2 1 * a 0 2 - a 2 2 * a 0 1) + (a 2 2 * a 0 0 - a 2 0 * a 0 2) + (a 2 0 * a 0 1 - a 2 1 * a 0 0)) + ((a 0 1 * a 1 2 - a 0 2 * a 1 1) + (a 0 2 * a 1 0 - a 0 0 * a 1 2) + (a 0 0 * a 1 1 - a 0 1 * a 1 0))) * (a 0 0 - a 1 0) + (-(((a 1 2 * a 2 0 - a 1 0 * a 2 2) + (a 2 2 * a 0 0 - a 2 0 * a 0 2) + (a 0 2 * a 1 0 - a 0 0 * a 1 2)) * (a 0 0 - a 0 1 - a 1 0 + a 1 1)) + (-(((a 1 0 * a 2 1 - a 1 1 * a 2 0) + (a 2 0 * a 0 1 - a 2 1 * a 0 0) + (a 0 0 * a 1 1 - a 0 1 * a 1 0)) * (a 0 0 - a 0 2 - a 1 0 + a 1 2)) + (0))) = (0 : Int) := by grind
theorem g_x94 (a : Nat → Nat → Int) : (((a 1 1 * a 2 2 - a 1 2 * a 2 1) + (a 1 2 * a 2 0 - a 1 0 * a 2 2) + (a 1 0 * a 2 1 - a 1 1 * a 2 0)) + ((a 2 1 * a 0 2 - a 2 2 * a 0 1) + (a 2 2 * a 0 0 - a 2 0 * a 0 2) + (a 2 0 * a 0 1 - a 2 1 * a 0 0)) + ((a 0 1 * a 1 2 - a 0 2 * a 1 1) + (a 0 2 * a 1 0 - a 0 0 * a 1 2) + (a 0 0 * a 1 1 - a 0 1 * a 1 0))) * (a 0 1 - a 0 2) + (-(((a 2 1 * a 0 2 - a 2 2 * a 0 1) + (a 2 2 * a 0 0 - a 2 0 * a 0 2) + (a 2 0 * a 0 1 - a 2 1 * a 0 0)) * (a 0 1 - a 0 2 - a 1 1 + a 1 2)) + (-(((a 0 1 * a 1 2 - a 0 2 * a 1 1) + (a 0 2 * a 1 0 - a 0 0 * a 1 2) + (a 0 0 * a 1 1 - a 0 1 * a 1 0)) * (a 0 1 - a 0 2 - a 2 1 + a 2 2)) + (0))) = (0 : Int) := by grind
theorem g_x95 (a : Nat → Nat → Int) : (((a 1 1 * a 2 2 - a 1 2 * a 2 1) + (a 1 2 * a 2 0 - a 1 0 * a 2 2) + (a 1 0 * a 2 1 - a 1 1 * a 2 0)) + ((a 2 1 * a 0 2 - a 2 2 * a 0 1) + (a 2 2 * a 0 0 - a 2 0 * a 0 2) + (a 2 0 * a 0 1 - a 2 1 * a 0 0)) + ((a 0 1 * a 1 2 - a 0 2 * a 1 1) + (a 0 2 * a 1 0 - a 0 0 * a 1 2) + (a 0 0 * a 1 1 - a 0 1 * a 1 0))) * (a 1 0 - a 2 0) + (-(((a 1 2 * a 2 0 - a 1 0 * a 2 2) + (a 2 2 * a 0 0 - a 2 0 * a 0 2) + (a 0 2 * a 1 0 - a 0 0 * a 1 2)) * (a 1 0 - a 1 1 - a 2 0 + a 2 1)) + (-(((a 1 0 * a 2 1 - a 1 1 * a 2 0) + (a 2 0 * a 0 1 - a 2 1 * a 0 0) + (a 0 0 * a 1 1 - a 0 1 * a 1 0)) * (a 1 0 - a 1 2 - a 2 0 + a 2 2)) + (0))) = (0 : Int) := by grind
theorem g_x96 (a : Nat → Nat → Int) : (((a 1 1 * a 2 2 - a 1 2 * a 2 1) + (a 1 2 * a 2 0 - a 1 0 * a 2 2) + (a 1 0 * a 2 1 - a 1 1 * a 2 0)) + ((a 2 1 * a 0 2 - a 2 2 * a 0 1) + (a 2 2 * a 0 0 - a 2 0 * a 0 2) + (a 2 0 * a 0 1 - a 2 1 * a 0 0)) + ((a 0 1 * a 1 2 - a 0 2 * a 1 1) + (a 0 2 * a 1 0 - a 0 0 * a 1 2) + (a 0 0 * a 1 1 - a 0 1 * a 1 0))) * (a 0 0 - a 0 2) + (-(((a 2 1 * a 0 2 - a 2 2 * a 0 1) + (a 2 2 * a 0 0 - a 2 0 * a 0 2) + (a 2 0 * a 0 1 - a 2 1 * a 0 0)) * (a 0 0 - a 0 2 - a 1 0 + a 1 2)) + (-(((a 0 1 * a 1 2 - a 0 2 * a 1 1) + (a 0 2 * a 1 0 - a 0 0 * a 1 2) + (a 0 0 * a 1 1 - a 0 1 * a 1 0)) * (a 0 0 - a 0 2 - a 2 0 + a 2 2)) + (0))) = (0 : Int) := by grind
theorem g_x97 (a : Nat → Nat → Int) : (((a 1 1 * a 2 2 - a 1 2 * a 2 1) + (a 1 2 * a 2 0 - a 1 0 * a 2 2) + (a 1 0 * a 2 1 - a 1 1 * a 2 0)) + ((a 2 1 * a 0 2 - a 2 2 * a 0 1) + (a 2 2 * a 0 0 - a 2 0 * a 0 2) + (a 2 0 * a 0 1 - a 2 1 * a 0 0)) + ((a 0 1 * a 1 2 - a 0 2 * a 1 1) + (a 0 2 * a 1 0 - a 0 0 * a 1 2) + (a 0 0 * a 1 1 - a 0 1 * a 1 0))) * (a 0 0 - a 2 0) + (-(((a 1 2 * a 2 0 - a 1 0 * a 2 2) + (a 2 2 * a 0 0 - a 2 0 * a 0 2) + (a 0 2 * a 1 0 - a 0 0 * a 1 2)) * (a 0 0 - a 0 1 - a 2 0 + a 2 1)) + (-(((a 1 0 * a 2 1 - a 1 1 * a 2 0) + (a 2 0 * a 0 1 - a 2 1 * a 0 0) + (a 0 0 * a 1 1 - a 0 1 * a 1 0)) * (a 0 0 - a 0 2 - a 2 0 + a 2 2)) + (0))) = (0 : Int) := by grind
theorem g_x98 (a : Nat → Nat → Int) : (((a 1 1 * a 2 2 - a 1 2 * a 2 1) + (a 1 2 * a 2 0 - a 1 0 * a 2 2) + (a 1 0 * a 2 1 - a 1 1 * a 2 0)) + ((a 2 1 * a 0 2 - a 2 2 * a 0 1) + (a 2 2 * a 0 0 - a 2 0 * a 0 2) + (a 2 0 * a 0 1 - a 2 1 * a 0 0)) + ((a 0 1 * a 1 2 - a 0 2 * a 1 1) + (a 0 2 * a 1 0 - a 0 0 * a 1 2) + (a 0 0 * a 1 1 - a 0 1 * a 1 0))) * (a 1 0 - a 1 1) + (-(((a 0 1 * a 1 2 - a 0 2 * a 1 1) + (a 0 2 * a 1 0 - a 0 0 * a 1 2) + (a 0 0 * a 1 1 - a 0 1 * a 1 0)) * (a 1 0 - a 1 1 - a 2 0 + a 2 1)) + (((a 1 1 * a 2 2 - a 1 2 * a 2 1) + (a 1 2 * a 2 0 - a 1 0 * a 2 2) + (a 1 0 * a 2 1 - a 1 1 * a 2 0)) * (a 0 0 - a 0 1 - a 1 0 + a 1 1) + (0))) = (0 : Int) := by grind
theorem g_x99 (a : Nat → Nat → Int) : (((a 1 1 * a 2 2 - a 1 2 * a 2 1) + (a 1 2 * a 2 0 - a 1 0 * a 2 2) + (a 1 0 * a 2 1 - a 1 1 * a 2 0)) + ((a 2 1 * a 0 2 - a 2 2 * a 0 1) + (a 2 2 * a 0 0 - a 2 0 * a 0 2) + (a 2 0 * a 0 1 - a 2 1 * a 0 0)) + ((a 0 1 * a 1 2 - a 0 2 * a 1 1) + (a 0 2 * a 1 0 - a 0 0 * a 1 2) + (a 0 0 * a 1 1 - a 0 1 * a 1 0))) * (a 0 1 - a 1 1) + (-(((a 1 0 * a 2 1 - a 1 1 * a 2 0) + (a 2 0 * a 0 1 - a 2 1 * a 0 0) + (a 0 0 * a 1 1 - a 0 1 * a 1 0)) * (a 0 1 - a 0 2 - a 1 1 + a 1 2)) + (((a 1 1 * a 2 2 - a 1 2 * a 2 1) + (a 2 1 * a 0 2 - a 2 2 * a 0 1) + (a 0 1 * a 1 2 - a 0 2 * a 1 1)) * (a 0 0 - a 0 1 - a 1 0 + a 1 1) + (0))) = (0 : Int) := by grind
theorem g_x100 (a : Nat → Nat → Int) : (((a 1 1 * a 2 2 - a 1 2 * a 2 1) + (a 1 2 * a 2 0 - a 1 0 * a 2 2) + (a 1 0 * a 2 1 - a 1 1 * a 2 0)) + ((a 2 1 * a 0 2 - a 2 2 * a 0 1) + (a 2 2 * a 0 0 - a 2 0 * a 0 2) + (a 2 0 * a 0 1 - a 2 1 * a 0 0)) + ((a 0 1 * a 1 2 - a 0 2 * a 1 1) + (a 0 2 * a 1 0 - a 0 0 * a 1 2) + (a 0 0 * a 1 1 - a 0 1 * a 1 0))) * (a 1 1 - a 1 2) + (-(((a 0 1 * a 1 2 - a 0 2 * a 1 1) + (a 0 2 * a 1 0 - a 0 0 * a 1 2) + (a 0 0 * a 1 1 - a 0 1 * a 1 0)) * (a 1 1 - a 1 2 - a 2 1 + a 2 2)) + (((a 1 1 * a 2 2 - a 1 2 * a 2 1) + (a 1 2 * a 2 0 - a 1 0 * a 2 2) + (a 1 0 * a 2 1 - a 1 1 * a 2 0)) * (a 0 1 - a 0 2 - a 1 1 + a 1 2) + (0))) = (0 : Int) := by grind
theorem g_x101 (a : Nat → Nat → Int) : (((a 1 1 * a 2 2 - a 1 2 * a 2 1) + (a 1 2 * a 2 0 - a 1 0 * a 2 2) + (a 1 0 * a 2 1 - a 1 1 * a 2 0)) + ((a 2 1 * a 0 2 - a 2 2 * a 0 1) + (a 2 2 * a 0 0 - a 2 0 * a 0 2) + (a 2 0 * a 0 1 - a 2 1 * a 0 0)) + ((a 0 1 * a 1 2 - a 0 2 * a 1 1) + (a 0 2 * a 1 0 - a 0 0 * a 1 2) + (a 0 0 * a 1 1 - a 0 1 * a 1 0))) * (a 1 1 - a 2 1) + (-(((a 1 0 * a 2 1 - a 1 1 * a 2 0) + (a 2 0 * a 0 1 - a 2 1 * a 0 0) + (a 0 0 * a 1 1 - a 0 1 * a 1 0)) * (a 1 1 - a 1 2 - a 2 1 + a 2 2)) + (((a 1 1 * a 2 2 - a 1 2 * a 2 1) + (a 2 1 * a 0 2 - a 2 2 * a 0 1) + (a 0 1 * a 1 2 - a 0 2 * a 1 1)) * (a 1 0 - a 1 1 - a 2 0 + a 2 1) + (0))) = (0 : Int) := by grind
theorem g_x102 (a : Nat → Nat → Int) : (((a 1 1 * a 2 2 - a 1 2 * a 2 1) + (a 1 2 * a 2 0 - a 1 0 * a 2 2) + (a 1 0 * a 2 1 - a 1 1 * a 2 0)) + ((a 2 1 * a 0 2 - a 2 2 * a 0 1) + (a 2 2 * a 0 0 - a 2 0 * a 0 2) + (a 2 0 * a 0 1 - a 2 1 * a 0 0)) + ((a 0 1 * a 1 2 - a 0 2 * a 1 1) + (a 0 2 * a 1 0 - a 0 0 * a 1 2) + (a 0 0 * a 1 1 - a 0 1 * a 1 0))) * (a 1 0 - a 1 2) + (-(((a 0 1 * a 1 2 - a 0 2 * a 1 1) + (a 0 2 * a 1 0 - a 0 0 * a 1 2) + (a 0 0 * a 1 1 - a 0 1 * a 1 0)) * (a 1 0 - a 1 2 - a 2 0 + a 2 2)) + (((a 1 1 * a 2 2 - a 1 2 * a 2 1) + (a 1 2 * a 2 0 - a 1 0 * a 2 2) + (a 1 0 * a 2 1 - a 1 1 * a 2 0)) * (a 0 0 - a 0 2 - a 1 0 + a 1 2) + (0))) = (0 : Int) := by grind
theorem g_x103 (a : Nat → Nat → Int) : (((a 1 1 * a 2 2 - a 1 2 * a 2 1) + (a 1 2 * a 2 0 - a 1 0 * a 2 2) + (a 1 0 * a 2 1 - a 1 1 * a 2 0)) + ((a 2 1 * a 0 2 - a 2 2 * a 0 1) + (a 2 2 * a 0 0 - a 2 0 * a 0 2) + (a 2 0 * a 0 1 - a 2 1 * a 0 0)) + ((a 0 1 * a 1 2 - a 0 2 * a 1 1) + (a 0 2 * a 1 0 - a 0 0 * a 1 2) + (a 0 0 * a 1 1 - a 0 1 * a 1 0))) * (a 0 1 - a 2 1) + (-(((a 1 0 * a 2 1 - a 1 1 * a 2 0) + (a 2 0 * a 0 1 - a 2 1 * a 0 0) + (a 0 0 * a 1 1 - a 0 1 * a 1 0)) * (a 0 1 - a 0 2 - a 2 1 + a 2 2)) + (((a 1 1 * a 2 2 - a 1 2 * a 2 1) + (a 2 1 * a 0 2 - a 2 2 * a 0 1) + (a 0 1 * a 1 2 - a 0 2 * a 1 1)) * (a 0 0 - a 0 1 - a 2 0 + a 2 1) + (0))) = (0 : Int) := by grind
theorem g_x104 (a : Nat → Nat → Int) : (((a 1 1 * a 2 2 - a 1 2 * a 2 1) + (a 1 2 * a 2 0 - a 1 0 * a 2 2) + (a 1 0 * a 2 1 - a 1 1 * a 2 0)) + ((a 2 1 * a 0 2 - a 2 2 * a 0 1) + (a 2 2 * a 0 0 - a 2 0 * a 0 2) + (a 2 0 * a 0 1 - a 2 1 * a 0 0)) + ((a 0 1 * a 1 2 - a 0 2 * a 1 1) + (a 0 2 * a 1 0 - a 0 0 * a 1 2) + (a 0 0 * a 1 1 - a 0 1 * a 1 0))) * (a 2 0 - a 2 1) + (((a 1 1 * a 2 2 - a 1 2 * a 2 1) + (a 1 2 * a 2 0 - a 1 0 * a 2 2) + (a 1 0 * a 2 1 - a 1 1 * a 2 0)) * (a 0 0 - a 0 1 - a 2 0 + a 2 1) + (((a 2 1 * a 0 2 - a 2 2 * a 0 1) + (a 2 2 * a 0 0 - a 2 0 * a 0 2) + (a 2 0 * a 0 1 - a 2 1 * a 0 0)) * (a 1 0 - a 1 1 - a 2 0 + a 2 1) + (0))) = (0 : Int) := by grind
theorem g_x105 (a : Nat → Nat → Int) : (((a 1 1 * a 2 2 - a 1 2 * a 2 1) + (a 1 2 * a 2 0 - a 1 0 * a 2 2) + (a 1 0 * a 2 1 - a 1 1 * a 2 0)) + ((a 2 1 * a 0 2 - a 2 2 * a 0 1) + (a 2 2 * a 0 0 - a 2 0 * a 0 2) + (a 2 0 * a 0 1 - a 2 1 * a 0 0)) + ((a 0 1 * a 1 2 - a 0 2 * a 1 1) + (a 0 2 * a 1 0 - a 0 0 * a 1 2) + (a 0 0 * a 1 1 - a 0 1 * a 1 0))) * (a 0 2 - a 1 2) + (((a 1 1 * a 2 2 - a 1 2 * a 2 1) + (a 2 1 * a 0 2 - a 2 2 * a 0 1) + (a 0 1 * a 1 2 - a 0 2 * a 1 1)) * (a 0 0 - a 0 2 - a 1 0 + a 1 2) + (((a 1 2 * a 2 0 - a 1 0 * a 2 2) + (a 2 2 * a 0 0 - a 2 0 * a 0 2) + (a 0 2 * a 1 0 - a 0 0 * a 1 2)) * (a 0 1 - a 0 2 - a 1 1 + a 1 2) + (0))) = (0 : Int) := by grind
theorem g_x106 (a : Nat → Nat → Int) : (((a 1 1 * a 2 2 - a 1 2 * a 2 1) + (a 1 2 * a 2 0 - a 1 0 * a 2 2) + (a 1 0 * a 2 1 - a 1 1 * a 2 0)) + ((a 2 1 * a 0 2 - a 2 2 * a 0 1) + (a 2 2 * a 0 0 - a 2 0 * a 0 2) + (a 2 0 * a 0 1 - a 2 1 * a 0 0)) + ((a 0 1 * a 1 2 - a 0 2 * a 1 1) + (a 0 2 * a 1 0 - a 0 0 * a 1 2) + (a 0 0 * a 1 1 - a 0 1 * a 1 0))) * (a 2 1 - a 2 2) + (((a 1 1 * a 2 2 - a 1 2 * a 2 1) + (a 1 2 * a 2 0 - a 1 0 * a 2 2) + (a 1 0 * a 2 1 - a 1 1 * a 2 0)) * (a 0 1 - a 0 2 - a 2 1 + a 2 2) + (((a 2 1 * a 0 2 - a 2 2 * a 0 1) + (a 2 2 * a 0 0 - a 2 0 * a 0 2) + (a 2 0 * a 0 1 - a 2 1 * a 0 0)) * (a 1 1 - a 1 2 - a 2 1 + a 2 2) + (0))) = (0 : Int) := by grind
theorem g_x107 (a : Nat → Nat → Int) : (((a 1 1 * a 2 2 - a 1 2 * a 2 1) + (a 1 2 * a 2 0 - a 1 0 * a 2 2) + (a 1 0 * a 2 1 - a 1 1 * a 2 0)) + ((a 2 1 * a 0 2 - a 2 2 * a 0 1) + (a 2 2 * a 0 0 - a 2 0 * a 0 2) + (a 2 0 * a 0 1 - a 2 1 * a 0 0)) + ((a 0 1 * a 1 2 - a 0 2 * a 1 1) + (a 0 2 * a 1 0 - a 0 0 * a 1 2) + (a 0 0 * a 1 1 - a 0 1 * a 1 0))) * (a 1 2 - a 2 2) + (((a 1 1 * a 2 2 - a 1 2 * a 2 1) + (a 2 1 * a 0 2 - a 2 2 * a 0 1) + (a 0 1 * a 1 2 - a 0 2 * a 1 1)) * (a 1 0 - a 1 2 - a 2 0 + a 2 2) + (((a 1 2 * a 2 0 - a 1 0 * a 2 2) + (a 2 2 * a 0 0 - a 2 0 * a 0 2) + (a 0 2 * a 1 0 - a 0 0 * a 1 2)) * (a 1 1 - a 1 2 - a 2 1 + a 2 2) + (0))) = (0 : Int) := by grind
theorem g_x108 (a : Nat → Nat → Int) : (((a 1 1 * a 2 2 - a 1 2 * a 2 1) + (a 1 2 * a 2 0 - a 1 0 * a 2 2) + (a 1 0 * a 2 1 - a 1 1 * a 2 0)) + ((a 2 1 * a 0 2 - a 2 2 * a 0 1) + (a 2 2 * a 0 0 - a 2 0 * a 0 2) + (a 2 0 * a 0 1 - a 2 1 * a 0 0)) + ((a 0 1 * a 1 2 - a 0 2 * a 1 1) + (a 0 2 * a 1 0 - a 0 0 * a 1 2) + (a 0 0 * a 1 1 - a 0 1 * a 1 0))) * (a 2 0 - a 2 2) + (((a 1 1 * a 2 2 - a 1 2 * a 2 1) + (a 1 2 * a 2 0 - a 1 0 * a 2 2) + (a 1 0 * a 2 1 - a 1 1 * a 2 0)) * (a 0 0 - a 0 2 - a 2 0 + a 2 2) + (((a 2 1 * a 0 2 - a 2 2 * a 0 1) + (a 2 2 * a 0 0 - a 2 0 * a 0 2) + (a 2 0 * a 0 1 - a 2 1 * a 0 0)) * (a 1 0 - a 1 2 - a 2 0 + a 2 2) + (0))) = (0 : Int) := by grind
theorem g_x109 (a : Nat → Nat → Int) : (((a 1 1 * a 2 2 - a 1 2 * a 2 1) + (a 1 2 * a 2 0 - a 1 0 * a 2 2) + (a 1 0 * a 2 1 - a 1 1 * a 2 0)) + ((a 2 1 * a 0 2 - a 2 2 * a 0 1) + (a 2 2 * a 0 0 - a 2 0 * a 0 2) + (a 2 0 * a 0 1 - a 2 1 * a 0 0)) + ((a 0 1 * a 1 2 - a 0 2 * a 1 1) + (a 0 2 * a 1 0 - a 0 0 * a 1 2) + (a 0 0 * a 1 1 - a 0 1 * a 1 0))) * (a 0 2 - a 2 2) + (((a 1 1 * a 2 2 - a 1 2 * a 2 1) + (a 2 1 * a 0 2 - a 2 2 * a 0 1) + (a 0 1 * a 1 2 - a 0 2 * a 1 1)) * (a 0 0 - a 0 2 - a 2 0 + a 2 2) + (((a 1 2 * a 2 0 - a 1 0 * a 2 2) + (a 2 2 * a 0 0 - a 2 0 * a 0 2) + (a 0 2 * a 1 0 - a 0 0 * a 1 2)) * (a 0 1 - a 0 2 - a 2 1 + a 2 2) + (0))) = (0 : Int) := by grind
theorem g_x110 (a : Nat → Nat → Int) : (((a 1 1 * a 2 2 - a 1 2 * a 2 1) + (a 1 2 * a 2 0 - a 1 0 * a 2 2) + (a 1 0 * a 2 1 - a 1 1 * a 2 0)) + ((a 2 1 * a 0 2 - a 2 2 * a 0 1) + (a 2 2 * a 0 0 - a 2 0 * a 0 2) + (a 2 0 * a 0 1 - a 2 1 * a 0 0)) + ((a 0 1 * a 1 2 - a 0 2 * a 1 1) + (a 0 2 * a 1 0 - a 0 0 * a 1 2) + (a 0 0 * a 1 1 - a 0 1 * a 1 0))) * 1 + (-((a 0 0 - a 0 1 - a 1 0 + a 1 1) * (a 1 1 - a 1 2 - a 2 1 + a 2 2)) + ((a 0 1 - a 0 2 - a 1 1 + a 1 2) * (a 1 0 - a 1 1 - a 2 0 + a 2 1) + (0))) = (0 : Int) := by grind
theorem g_x111 (a : Nat → Nat → Int) : (((a 1 1 * a 2 2 - a 1 2 * a 2 1) + (a 1 2 * a 2 0 - a 1 0 * a 2 2) + (a 1 0 * a 2 1 - a 1 1 * a 2 0)) + ((a 2 1 * a 0 2 - a 2 2 * a 0 1) + (a 2 2 * a 0 0 - a 2 0 * a 0 2) + (a 2 0 * a 0 1 - a 2 1 * a 0 0)) + ((a 0 1 * a 1 2 - a 0 2 * a 1 1) + (a 0 2 * a 1 0 - a 0 0 * a 1 2) + (a 0 0 * a 1 1 - a 0 1 * a 1 0))) * 1 + (-((a 0 0 - a 0 1 - a 1 0 + a 1 1) * (a 1 0 - a 1 2 - a 2 0 + a 2 2)) + ((a 0 0 - a 0 2 - a 1 0 + a 1 2) * (a 1 0 - a 1 1 - a 2 0 + a 2 1) + (0))) = (0 : Int) := by grind
theorem g_x112 (a : Nat → Nat → Int) : (((a 1 1 * a 2 2 - a 1 2 * a 2 1) + (a 1 2 * a 2 0 - a 1 0 * a 2 2) + (a 1 0 * a 2 1 - a 1 1 * a 2 0)) + ((a 2 1 * a 0 2 - a 2 2 * a 0 1) + (a 2 2 * a 0 0 - a 2 0 * a 0 2) + (a 2 0 * a 0 1 - a 2 1 * a 0 0)) + ((a 0 1 * a 1 2 - a 0 2 * a 1 1) + (a 0 2 * a 1 0 - a 0 0 * a 1 2) + (a 0 0 * a 1 1 - a 0 1 * a 1 0))) * 1 + ((a 0 1 - a 0 2 - a 1 1 + a 1 2) * (a 1 0 - a 1 2 - a 2 0 + a 2 2) + (-((a 0 0 - a 0 2 - a 1 0 + a 1 2) * (a 1 1 - a 1 2 - a 2 1 + a 2 2)) + (0))) = (0 : Int) := by grind
theorem g_x113 (a : Nat → Nat → Int) : (((a 1 1 * a 2 2 - a 1 2 * a 2 1) + (a 1 2 * a 2 0 - a 1 0 * a 2 2) + (a 1 0 * a 2 1 - a 1 1 * a 2 0)) + ((a 2 1 * a 0 2 - a 2 2 * a 0 1) + (a 2 2 * a 0 0 - a 2 0 * a 0 2) + (a 2 0 * a 0 1 - a 2 1 * a 0 0)) + ((a 0 1 * a 1 2 - a 0 2 * a 1 1) + (a 0 2 * a 1 0 - a 0 0 * a 1 2) + (a 0 0 * a 1 1 - a 0 1 * a 1 0))) * 1 + (-((a 0 0 - a 0 1 - a 1 0 + a 1 1) * (a 0 1 - a 0 2 - a 2 1 + a 2 2)) + ((a 0 1 - a 0 2 - a 1 1 + a 1 2) * (a 0 0 - a 0 1 - a 2 0 + a 2 1) + (0))) = (0 : Int) := by grind
theorem g_x114 (a : Nat → Nat → Int) : (((a 1 1 * a 2 2 - a 1 2 * a 2 1) + (a 1 2 * a 2 0 - a 1 0 * a 2 2) + (a 1 0 * a 2 1 - a 1 1 * a 2 0)) + ((a 2 1 * a 0 2 - a 2 2 * a 0 1) + (a 2 2 * a 0 0 - a 2 0 * a 0 2) + (a 2 0 * a 0 1 - a 2 1 * a 0 0)) + ((a 0 1 * a 1 2 - a 0 2 * a 1 1) + (a 0 2 * a 1 0 - a 0 0 * a 1 2) + (a 0 0 * a 1 1 - a 0 1 * a 1 0))) * 1 + (-((a 0 0 - a 0 1 - a 1 0 + a 1 1) * (a 0 0 - a 0 2 - a 2 0 + a 2 2)) + ((a 0 0 - a 0 2 - a 1 0 + a 1 2) * (a 0 0 - a 0 1 - a 2 0 + a 2 1) + (0))) = (0 : Int) := by grind
theorem g_x115 (a : Nat → Nat → Int) : (((a 1 1 * a 2 2 - a 1 2 * a 2 1) + (a 1 2 * a 2 0 - a 1 0 * a 2 2) + (a 1 0 * a 2 1 - a 1 1 * a 2 0)) + ((a 2 1 * a 0 2 - a 2 2 * a 0 1) + (a 2 2 * a 0 0 - a 2 0 * a 0 2) + (a 2 0 * a 0 1 - a 2 1 * a 0 0)) + ((a 0 1 * a 1 2 - a 0 2 * a 1 1) + (a 0 2 * a 1 0 - a 0 0 * a 1 2) + (a 0 0 * a 1 1 - a 0 1 * a 1 0))) * 1 + ((a 0 1 - a 0 2 - a 1 1 + a 1 2) * (a 0 0 - a 0 2 - a 2 0 + a 2 2) + (-((a 0 0 - a 0 2 - a 1 0 + a 1 2) * (a 0 1 - a 0 2 - a 2 1 + a 2 2)) + (0))) = (0 : Int) := by grind
theorem g_x116 (a : Nat → Nat → Int) : (((a 1 1 * a 2 2 - a 1 2 * a 2 1) + (a 1 2 * a 2 0 - a 1 0 * a 2 2) + (a 1 0 * a 2 1 - a 1 1 * a 2 0)) + ((a 2 1 * a 0 2 - a 2 2 * a 0 1) + (a 2 2 * a 0 0 - a 2 0 * a 0 2) + (a 2 0 * a 0 1 - a 2 1 * a 0 0)) + ((a 0 1 * a 1 2 - a 0 2 * a 1 1) + (a 0 2 * a 1 0 - a 0 0 * a 1 2) + (a 0 0 * a 1 1 - a 0 1 * a 1 0))) * 1 + ((a 1 0 - a 1 1 - a 2 0 + a 2 1) * (a 0 1 - a 0 2 - a 2 1 + a 2 2) + (-((a 1 1 - a 1 2 - a 2 1 + a 2 2) * (a 0 0 - a 0 1 - a 2 0 + a 2 1)) + (0))) = (0 : Int) := by grind
theorem g_x117 (a : Nat → Nat → Int) : (((a 1 1 * a 2 2 - a 1 2 * a 2 1) + (a 1 2 * a 2 0 - a 1 0 * a 2 2) + (a 1 0 * a 2 1 - a 1 1 * a 2 0)) + ((a 2 1 * a 0 2 - a 2 2 * a 0 1) + (a 2 2 * a 0 0 - a 2 0 * a 0 2) + (a 2 0 * a 0 1 - a 2 1 * a 0 0)) + ((a 0 1 * a 1 2 - a 0 2 * a 1 1) + (a 0 2 * a 1 0 - a 0 0 * a 1 2) + (a 0 0 * a 1 1 - a 0 1 * a 1 0))) * 1 + ((a 1 0 - a 1 1 - a 2 0 + a 2 1) * (a 0 0 - a 0 2 - a 2 0 + a 2 2) + (-((a 1 0 - a 1 2 - a 2 0 + a 2 2) * (a 0 0 - a 0 1 - a 2 0 + a 2 1)) + (0))) = (0 : Int) := by grind
theorem g_x118 (a : Nat → Nat → Int) : (((a 1 1 * a 2 2 - a 1 2 * a 2 1) + (a 1 2 * a 2 0 - a 1 0 * a 2 2) + (a 1 0 * a 2 1 - a 1 1 * a 2 0)) + ((a 2 1 * a 0 2 - a 2 2 * a 0 1) + (a 2 2 * a 0 0 - a 2 0 * a 0 2) + (a 2 0 * a 0 1 - a 2 1 * a 0 0)) + ((a 0 1 * a 1 2 - a 0 2 * a 1 1) + (a 0 2 * a 1 0 - a 0 0 * a 1 2) + (a 0 0 * a 1 1 - a 0 1 * a 1 0))) * 1 + (-((a 1 1 - a 1 2 - a 2 1 + a 2 2) * (a 0 0 - a 0 2 - a 2 0 + a 2 2)) + ((a 1 0 - a 1 2 - a 2 0 + a 2 2) * (a 0 1 - a 0 2 - a 2 1 + a 2 2) + (0))) = (0 : Int) := by grind
theorem g_fc {α : Type} {P : α → Prop} {x : α} {l : List α} (h : P x) (t : ∀ y ∈ l, P y) : ∀ y ∈ x :: l, P y := List.forall_mem_cons.2 ⟨h, t⟩
theorem g_fn {α : Type} {P : α → Prop} : ∀ y ∈ ([] : List α), P y := fun _ h => absurd h List.not_mem_nil
def GP (a : Nat → Nat → Int) (l : List GT) : Prop := (∀ t ∈ l, t.2.1 < 35 ∧ t.2.2 < 35) ∧ g_sv (g_V a) l = 0

theorem g_p0 (a : Nat → Nat → Int) : GP a [(false, 1, 34), (false, 2, 34), (true, 3, 34)] := ⟨by decide, g_x0 a⟩
theorem g_p1 (a : Nat → Nat → Int) : GP a [(false, 4, 34), (false, 5, 34), (true, 6, 34)] := ⟨by decide, g_x1 a⟩
theorem g_p2 (a : Nat → Nat → Int) : GP a [(false, 7, 34), (false, 8, 34), (true, 9, 34)] := ⟨by decide, g_x2 a⟩
theorem g_p3 (a : Nat → Nat → Int) : GP a [(false, 10, 34), (false, 11, 34), (true, 12, 34)] := ⟨by decide, g_x3 a⟩
theorem g_p4 (a : Nat → Nat → Int) : GP a [(false, 13, 34), (false, 14, 34), (true, 15, 34)] := ⟨by decide, g_x4 a⟩
theorem g_p5 (a : Nat → Nat → Int) : GP a [(false, 16, 34), (false, 17, 34), (true, 18, 34)] := ⟨by decide, g_x5 a⟩
theorem g_p6 (a : Nat → Nat → Int) : GP a [(false, 19, 34), (true, 1, 34), (false, 4, 34)] := ⟨by decide, g_x6 a⟩
theorem g_p7 (a : Nat → Nat → Int) : GP a [(false, 19, 34), (true, 10, 34), (false, 13, 34)] := ⟨by decide, g_x7 a⟩
theorem g_p8 (a : Nat → Nat → Int) : GP a [(false, 20, 34), (true, 2, 34), (false, 5, 34)] := ⟨by decide, g_x8 a⟩
theorem g_p9 (a : Nat → Nat → Int) : GP a [(false, 20, 34), (true, 13, 34), (false, 16, 34)] := ⟨by decide, g_x9 a⟩
theorem g_p10 (a : Nat → Nat → Int) : GP a [(false, 21, 34), (true, 3, 34), (false, 6, 34)] := ⟨by decide, g_x10 a⟩
theorem g_p11 (a : Nat → Nat → Int) : GP a [(false, 21, 34), (true, 10, 34), (false, 16, 34)] := ⟨by decide, g_x11 a⟩
theorem g_p12 (a : Nat → Nat → Int) : GP a [(false, 22, 34), (true, 4, 34), (false, 7, 34)] := ⟨by decide, g_x12 a⟩
theorem g_p13 (a : Nat → Nat → Int) : GP a [(false, 22, 34), (true, 11, 34), (false, 14, 34)] := ⟨by decide, g_x13 a⟩
theorem g_p14 (a : Nat → Nat → Int) : GP a [(false, 23, 34), (true, 5, 34), (false, 8, 34)] := ⟨by decide, g_x14 a⟩
theorem g_p15 (a : Nat → Nat → Int) : GP a [(false, 23, 34), (true, 14, 34), (false, 17, 34)] := ⟨by decide, g_x15 a⟩
theorem g_p16 (a : Nat → Nat → Int) : GP a [(false, 24, 34), (true, 6, 34), (false, 9, 34)] := ⟨by decide, g_x16 a⟩
theorem g_p17 (a : Nat → Nat → Int) : GP a [(false, 24, 34), (true, 11, 34), (false, 17, 34)] := ⟨by decide, g_x17 a⟩
theorem g_p18 (a : Nat → Nat → Int) : GP a [(false, 25, 34), (true, 1, 34), (false, 7, 34)] := ⟨by decide, g_x18 a⟩
theorem g_p19 (a : Nat → Nat → Int) : GP a [(false, 25, 34), (true, 12, 34), (false, 15, 34)] := ⟨by decide, g_x19 a⟩
theorem g_p20 (a : Nat → Nat → Int) : GP a [(false, 26, 34), (true, 2, 34), (false, 8, 34)] := ⟨by decide, g_x20 a⟩
theorem g_p21 (a : Nat → Nat → Int) : GP a [(false, 26, 34), (true, 15, 34), (false, 18, 34)] := ⟨by decide, g_x21 a⟩
theorem g_p22 (a : Nat → Nat → Int) : GP a [(false, 27, 34), (true, 3, 34), (false, 9, 34)] := ⟨by decide, g_x22 a⟩
theorem g_p23 (a : Nat → Nat → Int) : GP a [(false, 27, 34), (true, 12, 34), (false, 18, 34)] := ⟨by decide, g_x23 a⟩
theorem g_p24 (a : Nat → Nat → Int) : GP a [(false, 19, 34), (false, 20, 34), (true, 21, 34)] := ⟨by decide, g_x24 a⟩
theorem g_p25 (a : Nat → Nat → Int) : GP a [(false, 22, 34), (false, 23, 34), (true, 24, 34)] := ⟨by decide, g_x25 a⟩
theorem g_p26 (a : Nat → Nat → Int) : GP a [(false, 25, 34), (false, 26, 34), (true, 27, 34)] := ⟨by decide, g_x26 a⟩
theorem g_p27 (a : Nat → Nat → Int) : GP a [(false, 19, 34), (false, 22, 34), (true, 25, 34)] := ⟨by decide, g_x27 a⟩
theorem g_p28 (a : Nat → Nat → Int) : GP a [(false, 20, 34), (false, 23, 34), (true, 26, 34)] := ⟨by decide, g_x28 a⟩
theorem g_p29 (a : Nat → Nat → Int) : GP a [(false, 21, 34), (false, 24, 34), (true, 27, 34)] := ⟨by decide, g_x29 a⟩
theorem g_p30 (a : Nat → Nat → Int) : GP a [(false, 28, 34), (true, 4, 8), (false, 5, 7)] := ⟨by decide, g_x30 a⟩
theorem g_p31 (a : Nat → Nat → Int) : GP a [(false, 28, 34), (false, 4, 23), (true, 5, 22)] := ⟨by decide, g_x31 a⟩
theorem g_p32 (a : Nat → Nat → Int) : GP a [(false, 28, 34), (false, 7, 23), (true, 8, 22)] := ⟨by decide, g_x32 a⟩
theorem g_p33 (a : Nat → Nat → Int) : GP a [(false, 28, 34), (true, 4, 9), (false, 6, 7)] := ⟨by decide, g_x33 a⟩
theorem g_p34 (a : Nat → Nat → Int) : GP a [(false, 28, 34), (false, 4, 24), (true, 6, 22)] := ⟨by decide, g_x34 a⟩
theorem g_p35 (a : Nat → Nat → Int) : GP a [(false, 28, 34), (false, 7, 24), (true, 9, 22)] := ⟨by decide, g_x35 a⟩
theorem g_p36 (a : Nat → Nat → Int) : GP a [(false, 28, 34), (false, 5, 9), (true, 6, 8)] := ⟨by decide, g_x36 a⟩
theorem g_p37 (a : Nat → Nat → Int) : GP a [(false, 28, 34), (true, 5, 24), (false, 6, 23)] := ⟨by decide, g_x37 a⟩
theorem g_p38 (a : Nat → Nat → Int) : GP a [(false, 28, 34), (true, 8, 24), (false, 9, 23)] := ⟨by decide, g_x38 a⟩
theorem g_p39 (a : Nat → Nat → Int) : GP a [(false, 31, 34), (true, 13, 17), (false, 14, 16)] := ⟨by decide, g_x39 a⟩
theorem g_p40 (a : Nat → Nat → Int) : GP a [(false, 31, 34), (false, 13, 23), (true, 14, 20)] := ⟨by decide, g_x40 a⟩
theorem g_p41 (a : Nat → Nat → Int) : GP a [(false, 31, 34), (false, 16, 23), (true, 17, 20)] := ⟨by decide, g_x41 a⟩
theorem g_p42 (a : Nat → Nat → Int) : GP a [(false, 31, 34), (true, 13, 18), (false, 15, 16)] := ⟨by decide, g_x42 a⟩
theorem g_p43 (a : Nat → Nat → Int) : GP a [(false, 31, 34), (false, 13, 26), (true, 15, 20)] := ⟨by decide, g_x43 a⟩
theorem g_p44 (a : Nat → Nat → Int) : GP a [(false, 31, 34), (false, 16, 26), (true, 18, 20)] := ⟨by decide, g_x44 a⟩
theorem g_p45 (a : Nat → Nat → Int) : GP a [(false, 31, 34), (false, 14, 18), (true, 15, 17)] := ⟨by decide, g_x45 a⟩
theorem g_p46 (a : Nat → Nat → Int) : GP a [(false, 31, 34), (true, 14, 26), (false, 15, 23)] := ⟨by decide, g_x46 a⟩
theorem g_p47 (a : Nat → Nat → Int) : GP a [(false, 31, 34), (true, 17, 26), (false, 18, 23)] := ⟨by decide, g_x47 a⟩
theorem g_p48 (a : Nat → Nat → Int) : GP a [(false, 29, 34), (true, 7, 2), (false, 8, 1)] := ⟨by decide, g_x48 a⟩
theorem g_p49 (a : Nat → Nat → Int) : GP a [(false, 29, 34), (true, 7, 26), (false, 8, 25)] := ⟨by decide, g_x49 a⟩
theorem g_p50 (a : Nat → Nat → Int) : GP a [(false, 29, 34), (true, 1, 26), (false, 2, 25)] := ⟨by decide, g_x50 a⟩
theorem g_p51 (a : Nat → Nat → Int) : GP a [(false, 29, 34), (true, 7, 3), (false, 9, 1)] := ⟨by decide, g_x51 a⟩
theorem g_p52 (a : Nat → Nat → Int) : GP a [(false, 29, 34), (true, 7, 27), (false, 9, 25)] := ⟨by decide, g_x52 a⟩
theorem g_p53 (a : Nat → Nat → Int) : GP a [(false, 29, 34), (true, 1, 27), (false, 3, 25)] := ⟨by decide, g_x53 a⟩
theorem g_p54 (a : Nat → Nat → Int) : GP a [(false, 29, 34), (false, 8, 3), (true, 9, 2)] := ⟨by decide, g_x54 a⟩
theorem g_p55 (a : Nat → Nat → Int) : GP a [(false, 29, 34), (false, 8, 27), (true, 9, 26)] := ⟨by decide, g_x55 a⟩
theorem g_p56 (a : Nat → Nat → Int) : GP a [(false, 29, 34), (false, 2, 27), (true, 3, 26)] := ⟨by decide, g_x56 a⟩
theorem g_p57 (a : Nat → Nat → Int) : GP a [(false, 32, 34), (true, 16, 11), (false, 17, 10)] := ⟨by decide, g_x57 a⟩
theorem g_p58 (a : Nat → Nat → Int) : GP a [(false, 32, 34), (true, 16, 24), (false, 17, 21)] := ⟨by decide, g_x58 a⟩
theorem g_p59 (a : Nat → Nat → Int) : GP a [(false, 32, 34), (true, 10, 24), (false, 11, 21)] := ⟨by decide, g_x59 a⟩
theorem g_p60 (a : Nat → Nat → Int) : GP a [(false, 32, 34), (true, 16, 12), (false, 18, 10)] := ⟨by decide, g_x60 a⟩
theorem g_p61 (a : Nat → Nat → Int) : GP a [(false, 32, 34), (true, 16, 27), (false, 18, 21)] := ⟨by decide, g_x61 a⟩
theorem g_p62 (a : Nat → Nat → Int) : GP a [(false, 32, 34), (true, 10, 27), (false, 12, 21)] := ⟨by decide, g_x62 a⟩
theorem g_p63 (a : Nat → Nat → Int) : GP a [(false, 32, 34), (false, 17, 12), (true, 18, 11)] := ⟨by decide, g_x63 a⟩
theorem g_p64 (a : Nat → Nat → Int) : GP a [(false, 32, 34), (false, 17, 27), (true, 18, 24)] := ⟨by decide, g_x64 a⟩
theorem g_p65 (a : Nat → Nat → Int) : GP a [(false, 32, 34), (false, 11, 27), (true, 12, 24)] := ⟨by decide, g_x65 a⟩
theorem g_p66 (a : Nat → Nat → Int) : GP a [(false, 30, 34), (true, 1, 5), (false, 2, 4)] := ⟨by decide, g_x66 a⟩
theorem g_p67 (a : Nat → Nat → Int) : GP a [(false, 30, 34), (false, 1, 20), (true, 2, 19)] := ⟨by decide, g_x67 a⟩
theorem g_p68 (a : Nat → Nat → Int) : GP a [(false, 30, 34), (false, 4, 20), (true, 5, 19)] := ⟨by decide, g_x68 a⟩
theorem g_p69 (a : Nat → Nat → Int) : GP a [(false, 30, 34), (true, 1, 6), (false, 3, 4)] := ⟨by decide, g_x69 a⟩
theorem g_p70 (a : Nat → Nat → Int) : GP a [(false, 30, 34), (false, 1, 21), (true, 3, 19)] := ⟨by decide, g_x70 a⟩
theorem g_p71 (a : Nat → Nat → Int) : GP a [(false, 30, 34), (false, 4, 21), (true, 6, 19)] := ⟨by decide, g_x71 a⟩
theorem g_p72 (a : Nat → Nat → Int) : GP a [(false, 30, 34), (false, 2, 6), (true, 3, 5)] := ⟨by decide, g_x72 a⟩
theorem g_p73 (a : Nat → Nat → Int) : GP a [(false, 30, 34), (true, 2, 21), (false, 3, 20)] := ⟨by decide, g_x73 a⟩
theorem g_p74 (a : Nat → Nat → Int) : GP a [(false, 30, 34), (true, 5, 21), (false, 6, 20)] := ⟨by decide, g_x74 a⟩
theorem g_p75 (a : Nat → Nat → Int) : GP a [(false, 33, 34), (true, 10, 14), (false, 11, 13)] := ⟨by decide, g_x75 a⟩
theorem g_p76 (a : Nat → Nat → Int) : GP a [(false, 33, 34), (false, 10, 22), (true, 11, 19)] := ⟨by decide, g_x76 a⟩
theorem g_p77 (a : Nat → Nat → Int) : GP a [(false, 33, 34), (false, 13, 22), (true, 14, 19)] := ⟨by decide, g_x77 a⟩
theorem g_p78 (a : Nat → Nat → Int) : GP a [(false, 33, 34), (true, 10, 15), (false, 12, 13)] := ⟨by decide, g_x78 a⟩
theorem g_p79 (a : Nat → Nat → Int) : GP a [(false, 33, 34), (false, 10, 25), (true, 12, 19)] := ⟨by decide, g_x79 a⟩
theorem g_p80 (a : Nat → Nat → Int) : GP a [(false, 33, 34), (false, 13, 25), (true, 15, 19)] := ⟨by decide, g_x80 a⟩
theorem g_p81 (a : Nat → Nat → Int) : GP a [(false, 33, 34), (false, 11, 15), (true, 12, 14)] := ⟨by decide, g_x81 a⟩
theorem g_p82 (a : Nat → Nat → Int) : GP a [(false, 33, 34), (true, 11, 25), (false, 12, 22)] := ⟨by decide, g_x82 a⟩
theorem g_p83 (a : Nat → Nat → Int) : GP a [(false, 33, 34), (true, 14, 25), (false, 15, 22)] := ⟨by decide, g_x83 a⟩
theorem g_p84 (a : Nat → Nat → Int) : GP a [(false, 28, 1), (false, 29, 4), (false, 30, 7)] := ⟨by decide, g_x84 a⟩
theorem g_p85 (a : Nat → Nat → Int) : GP a [(false, 31, 10), (false, 32, 13), (false, 33, 16)] := ⟨by decide, g_x85 a⟩
theorem g_p86 (a : Nat → Nat → Int) : GP a [(false, 28, 2), (false, 29, 5), (false, 30, 8)] := ⟨by decide, g_x86 a⟩
theorem g_p87 (a : Nat → Nat → Int) : GP a [(false, 31, 11), (false, 32, 14), (false, 33, 17)] := ⟨by decide, g_x87 a⟩
theorem g_p88 (a : Nat → Nat → Int) : GP a [(false, 28, 3), (false, 29, 6), (false, 30, 9)] := ⟨by decide, g_x88 a⟩
theorem g_p89 (a : Nat → Nat → Int) : GP a [(false, 31, 12), (false, 32, 15), (false, 33, 18)] := ⟨by decide, g_x89 a⟩
theorem g_p90 (a : Nat → Nat → Int) : GP a [(false, 0, 34), (true, 28, 34), (true, 29, 34), (true, 30, 34)] := ⟨by decide, g_x90 a⟩
theorem g_p91 (a : Nat → Nat → Int) : GP a [(false, 0, 34), (true, 31, 34), (true, 32, 34), (true, 33, 34)] := ⟨by decide, g_x91 a⟩
theorem g_p92 (a : Nat → Nat → Int) : GP a [(false, 0, 1), (true, 29, 19), (true, 30, 25)] := ⟨by decide, g_x92 a⟩
theorem g_p93 (a : Nat → Nat → Int) : GP a [(false, 0, 10), (true, 32, 19), (true, 33, 21)] := ⟨by decide, g_x93 a⟩
theorem g_p94 (a : Nat → Nat → Int) : GP a [(false, 0, 2), (true, 29, 20), (true, 30, 26)] := ⟨by decide, g_x94 a⟩
theorem g_p95 (a : Nat → Nat → Int) : GP a [(false, 0, 11), (true, 32, 22), (true, 33, 24)] := ⟨by decide, g_x95 a⟩
theorem g_p96 (a : Nat → Nat → Int) : GP a [(false, 0, 3), (true, 29, 21), (true, 30, 27)] := ⟨by decide, g_x96 a⟩
theorem g_p97 (a : Nat → Nat → Int) : GP a [(false, 0, 12), (true, 32, 25), (true, 33, 27)] := ⟨by decide, g_x97 a⟩
theorem g_p98 (a : Nat → Nat → Int) : GP a [(false, 0, 4), (true, 30, 22), (false, 28, 19)] := ⟨by decide, g_x98 a⟩
theorem g_p99 (a : Nat → Nat → Int) : GP a [(false, 0, 13), (true, 33, 20), (false, 31, 19)] := ⟨by decide, g_x99 a⟩
theorem g_p100 (a : Nat → Nat → Int) : GP a [(false, 0, 5), (true, 30, 23), (false, 28, 20)] := ⟨by decide, g_x100 a⟩
theorem g_p101 (a : Nat → Nat → Int) : GP a [(false, 0, 14), (true, 33, 23), (false, 31, 22)] := ⟨by decide, g_x101 a⟩
theorem g_p102 (a : Nat → Nat → Int) : GP a [(false, 0, 6), (true, 30, 24), (false, 28, 21)] := ⟨by decide, g_x102 a⟩
theorem g_p103 (a : Nat → Nat → Int) : GP a [(false, 0, 15), (true, 33, 26), (false, 31, 25)] := ⟨by decide, g_x103 a⟩
theorem g_p104 (a : Nat → Nat → Int) : GP a [(false, 0, 7), (false, 28, 25), (false, 29, 22)] := ⟨by decide, g_x104 a⟩
theorem g_p105 (a : Nat → Nat → Int) : GP a [(false, 0, 16), (false, 31, 21), (false, 32, 20)] := ⟨by decide, g_x105 a⟩
theorem g_p106 (a : Nat → Nat → Int) : GP a [(false, 0, 8), (false, 28, 26), (false, 29, 23)] := ⟨by decide, g_x106 a⟩
theorem g_p107 (a : Nat → Nat → Int) : GP a [(false, 0, 17), (false, 31, 24), (false, 32, 23)] := ⟨by decide, g_x107 a⟩
theorem g_p108 (a : Nat → Nat → Int) : GP a [(false, 0, 9), (false, 28, 27), (false, 29, 24)] := ⟨by decide, g_x108 a⟩
theorem g_p109 (a : Nat → Nat → Int) : GP a [(false, 0, 18), (false, 31, 27), (false, 32, 26)] := ⟨by decide, g_x109 a⟩
theorem g_p110 (a : Nat → Nat → Int) : GP a [(false, 0, 34), (true, 19, 23), (false, 20, 22)] := ⟨by decide, g_x110 a⟩
theorem g_p111 (a : Nat → Nat → Int) : GP a [(false, 0, 34), (true, 19, 24), (false, 21, 22)] := ⟨by decide, g_x111 a⟩
theorem g_p112 (a : Nat → Nat → Int) : GP a [(false, 0, 34), (false, 20, 24), (true, 21, 23)] := ⟨by decide, g_x112 a⟩
theorem g_p113 (a : Nat → Nat → Int) : GP a [(false, 0, 34), (true, 19, 26), (false, 20, 25)] := ⟨by decide, g_x113 a⟩
theorem g_p114 (a : Nat → Nat → Int) : GP a [(false, 0, 34), (true, 19, 27), (false, 21, 25)] := ⟨by decide, g_x114 a⟩
theorem g_p115 (a : Nat → Nat → Int) : GP a [(false, 0, 34), (false, 20, 27), (true, 21, 26)] := ⟨by decide, g_x115 a⟩
theorem g_p116 (a : Nat → Nat → Int) : GP a [(false, 0, 34), (false, 22, 26), (true, 23, 25)] := ⟨by decide, g_x116 a⟩
theorem g_p117 (a : Nat → Nat → Int) : GP a [(false, 0, 34), (false, 22, 27), (true, 24, 25)] := ⟨by decide, g_x117 a⟩
theorem g_p118 (a : Nat → Nat → Int) : GP a [(false, 0, 34), (true, 23, 27), (false, 24, 26)] := ⟨by decide, g_x118 a⟩
theorem g_ax (a : Nat → Nat → Int) : ∀ r ∈ g_A, ∀ l ∈ r, GP a l := by
  unfold g_A
  exact (g_fc (g_fc (g_p0 a) (g_fc (g_p1 a) (g_fc (g_p2 a) (g_fc (g_p3 a) (g_fc (g_p4 a) (g_fc (g_p5 a) (g_fc (g_p6 a) (g_fc (g_p7 a) (g_fc (g_p8 a) (g_fc (g_p9 a) (g_fc (g_p10 a) (g_fc (g_p11 a) (g_fc (g_p12 a) (g_fc (g_p13 a) (g_fc (g_p14 a) (g_fc (g_p15 a) g_fn)))))))))))))))) (g_fc (g_fc (g_p16 a) (g_fc (g_p17 a) (g_fc (g_p18 a) (g_fc (g_p19 a) (g_fc (g_p20 a) (g_fc (g_p21 a) (g_fc (g_p22 a) (g_fc (g_p23 a) (g_fc (g_p24 a) (g_fc (g_p25 a) (g_fc (g_p26 a) (g_fc (g_p27 a) (g_fc (g_p28 a) (g_fc (g_p29 a) (g_fc (g_p30 a) (g_fc (g_p31 a) g_fn)))))))))))))))) (g_fc (g_fc (g_p32 a) (g_fc (g_p33 a) (g_fc (g_p34 a) (g_fc (g_p35 a) (g_fc (g_p36 a) (g_fc (g_p37 a) (g_fc (g_p38 a) (g_fc (g_p39 a) (g_fc (g_p40 a) (g_fc (g_p41 a) (g_fc (g_p42 a) (g_fc (g_p43 a) (g_fc (g_p44 a) (g_fc (g_p45 a) (g_fc (g_p46 a) (g_fc (g_p47 a) g_fn)))))))))))))))) (g_fc (g_fc (g_p48 a) (g_fc (g_p49 a) (g_fc (g_p50 a) (g_fc (g_p51 a) (g_fc (g_p52 a) (g_fc (g_p53 a) (g_fc (g_p54 a) (g_fc (g_p55 a) (g_fc (g_p56 a) (g_fc (g_p57 a) (g_fc (g_p58 a) (g_fc (g_p59 a) (g_fc (g_p60 a) (g_fc (g_p61 a) (g_fc (g_p62 a) (g_fc (g_p63 a) g_fn)))))))))))))))) (g_fc (g_fc (g_p64 a) (g_fc (g_p65 a) (g_fc (g_p66 a) (g_fc (g_p67 a) (g_fc (g_p68 a) (g_fc (g_p69 a) (g_fc (g_p70 a) (g_fc (g_p71 a) (g_fc (g_p72 a) (g_fc (g_p73 a) (g_fc (g_p74 a) (g_fc (g_p75 a) (g_fc (g_p76 a) (g_fc (g_p77 a) (g_fc (g_p78 a) (g_fc (g_p79 a) g_fn)))))))))))))))) (g_fc (g_fc (g_p80 a) (g_fc (g_p81 a) (g_fc (g_p82 a) (g_fc (g_p83 a) (g_fc (g_p84 a) (g_fc (g_p85 a) (g_fc (g_p86 a) (g_fc (g_p87 a) (g_fc (g_p88 a) (g_fc (g_p89 a) (g_fc (g_p90 a) (g_fc (g_p91 a) (g_fc (g_p92 a) (g_fc (g_p93 a) (g_fc (g_p94 a) (g_fc (g_p95 a) g_fn)))))))))))))))) (g_fc (g_fc (g_p96 a) (g_fc (g_p97 a) (g_fc (g_p98 a) (g_fc (g_p99 a) (g_fc (g_p100 a) (g_fc (g_p101 a) (g_fc (g_p102 a) (g_fc (g_p103 a) (g_fc (g_p104 a) (g_fc (g_p105 a) (g_fc (g_p106 a) (g_fc (g_p107 a) (g_fc (g_p108 a) (g_fc (g_p109 a) (g_fc (g_p110 a) (g_fc (g_p111 a) g_fn)))))))))))))))) (g_fc (g_fc (g_p112 a) (g_fc (g_p113 a) (g_fc (g_p114 a) (g_fc (g_p115 a) (g_fc (g_p116 a) (g_fc (g_p117 a) (g_fc (g_p118 a) g_fn))))))) g_fn))))))))

def gS : Nat → (Nat → Int) → Int
  | 0, _ => 0
  | n + 1, f => gS n f + f n
/-- Mixes x of the rows and y of the columns, and p: none can do better. -/
def gG (N : Nat) (a : Nat → Nat → Int) (x y : Nat → Int) (p : Int) : Prop :=
  ∀ j, j < N → 0 ≤ x j ∧ 0 ≤ y j ∧ p ≤ gS N (fun i => x i * a i j) ∧ gS N (fun i => y i * a j i) ≤ p
def gOk (N : Nat) (a : Nat → Nat → Int) (x y : Nat → Int) (p q : Int) : Prop :=
  (0 < q ∧ gG N a x y p) ∨ (q < 0 ∧ gG N a (fun i => -(x i)) (fun i => -(y i)) (-p))
def gx1 (i m : Nat) : Int := if m = i then 1 else 0
def gx2 (i k : Nat) (u w : Int) (m : Nat) : Int := if m = k then w else if m = i then u else 0
def gOk1 (N : Nat) (a : Nat → Nat → Int) (i j : Nat) : Prop := gOk N a (gx1 i) (gx1 j) (a i j) 1
def gOk2 (N : Nat) (a : Nat → Nat → Int) (i k j l : Nat) : Prop :=
  gOk N a (gx2 i k (a k l - a k j) (a i j - a i l)) (gx2 j l (a k l - a i l) (a i j - a k j)) (a i j * a k l - a i l * a k j) ((a k l - a k j) + (a i j - a i l))
def gX3 (a : Nat → Nat → Int) (m : Nat) : Int := gC a m 0 + gC a m 1 + gC a m 2
def gY3 (a : Nat → Nat → Int) (m : Nat) : Int := gC a 0 m + gC a 1 m + gC a 2 m
def gP3 (a : Nat → Nat → Int) : Int := a 0 0 * gC a 0 0 + a 0 1 * gC a 0 1 + a 0 2 * gC a 0 2
def gOk3 (a : Nat → Nat → Int) : Prop := gOk 3 a (gX3 a) (gY3 a) (gP3 a) (gX3 a 0 + gX3 a 1 + gX3 a 2)

theorem g_k0 (a : Nat → Nat → Int) (H : ∀ q ∈ ([(1, 3), (3, 3), (10, 6), (12, 6)] : List (Nat × Nat)), q.2.testBit (g_sg (g_V a q.1)) = true) : gOk1 3 a 0 0 := by
  simp only [List.forall_mem_cons] at H
  have h0 : (a 0 0 - a 0 1) ≤ 0 := g_b3 _ H.1
  have h1 : (a 0 0 - a 0 2) ≤ 0 := g_b3 _ H.2.1
  have h2 : 0 ≤ (a 0 0 - a 1 0) := g_b6 _ H.2.2.1
  have h3 : 0 ≤ (a 0 0 - a 2 0) := g_b6 _ H.2.2.2.1
  left
  have p0 : 0 ≤ (1 : Int) := by omega
  have q0 : 0 ≤ (1 : Int) := by omega
  have r0 : a 0 0 ≤ 0 + (1) * a 0 0 + (0) * a 1 0 + (0) * a 2 0 := by grind
  have s0 : 0 + (1) * a 0 0 + (0) * a 0 1 + (0) * a 0 2 ≤ a 0 0 := by grind
  have p1 : 0 ≤ (0 : Int) := by omega
  have q1 : 0 ≤ (0 : Int) := by omega
  have r1 : a 0 0 ≤ 0 + (1) * a 0 1 + (0) * a 1 1 + (0) * a 2 1 := by grind
  have s1 : 0 + (1) * a 1 0 + (0) * a 1 1 + (0) * a 1 2 ≤ a 0 0 := by grind
  have p2 : 0 ≤ (0 : Int) := by omega
  have q2 : 0 ≤ (0 : Int) := by omega
  have r2 : a 0 0 ≤ 0 + (1) * a 0 2 + (0) * a 1 2 + (0) * a 2 2 := by grind
  have s2 : 0 + (1) * a 2 0 + (0) * a 2 1 + (0) * a 2 2 ≤ a 0 0 := by grind
  have t : (0 : Int) < 1 := by grind
  exact ⟨t, fun m hm => match m, hm with | 0, _ => ⟨p0, q0, r0, s0⟩ | 1, _ => ⟨p1, q1, r1, s1⟩ | 2, _ => ⟨p2, q2, r2, s2⟩ | n + 3, h => absurd h (by omega)⟩
theorem g_k1 (a : Nat → Nat → Int) (H : ∀ q ∈ ([(1, 6), (2, 3), (13, 6), (15, 6)] : List (Nat × Nat)), q.2.testBit (g_sg (g_V a q.1)) = true) : gOk1 3 a 0 1 := by
  simp only [List.forall_mem_cons] at H
  have h0 : 0 ≤ (a 0 0 - a 0 1) := g_b6 _ H.1
  have h1 : (a 0 1 - a 0 2) ≤ 0 := g_b3 _ H.2.1
  have h2 : 0 ≤ (a 0 1 - a 1 1) := g_b6 _ H.2.2.1
  have h3 : 0 ≤ (a 0 1 - a 2 1) := g_b6 _ H.2.2.2.1
  left
  have p0 : 0 ≤ (1 : Int) := by omega
  have q0 : 0 ≤ (0 : Int) := by omega
  have r0 : a 0 1 ≤ 0 + (1) * a 0 0 + (0) * a 1 0 + (0) * a 2 0 := by grind
  have s0 : 0 + (0) * a 0 0 + (1) * a 0 1 + (0) * a 0 2 ≤ a 0 1 := by grind
  have p1 : 0 ≤ (0 : Int) := by omega
  have q1 : 0 ≤ (1 : Int) := by omega
  have r1 : a 0 1 ≤ 0 + (1) * a 0 1 + (0) * a 1 1 + (0) * a 2 1 := by grind
  have s1 : 0 + (0) * a 1 0 + (1) * a 1 1 + (0) * a 1 2 ≤ a 0 1 := by grind
  have p2 : 0 ≤ (0 : Int) := by omega
  have q2 : 0 ≤ (0 : Int) := by omega
  have r2 : a 0 1 ≤ 0 + (1) * a 0 2 + (0) * a 1 2 + (0) * a 2 2 := by grind
  have s2 : 0 + (0) * a 2 0 + (1) * a 2 1 + (0) * a 2 2 ≤ a 0 1 := by grind
  have t : (0 : Int) < 1 := by grind
  exact ⟨t, fun m hm => match m, hm with | 0, _ => ⟨p0, q0, r0, s0⟩ | 1, _ => ⟨p1, q1, r1, s1⟩ | 2, _ => ⟨p2, q2, r2, s2⟩ | n + 3, h => absurd h (by omega)⟩
theorem g_k2 (a : Nat → Nat → Int) (H : ∀ q ∈ ([(3, 6), (2, 6), (16, 6), (18, 6)] : List (Nat × Nat)), q.2.testBit (g_sg (g_V a q.1)) = true) : gOk1 3 a 0 2 := by
  simp only [List.forall_mem_cons] at H
  have h0 : 0 ≤ (a 0 0 - a 0 2) := g_b6 _ H.1
  have h1 : 0 ≤ (a 0 1 - a 0 2) := g_b6 _ H.2.1
  have h2 : 0 ≤ (a 0 2 - a 1 2) := g_b6 _ H.2.2.1
  have h3 : 0 ≤ (a 0 2 - a 2 2) := g_b6 _ H.2.2.2.1
  left
  have p0 : 0 ≤ (1 : Int) := by omega
  have q0 : 0 ≤ (0 : Int) := by omega
  have r0 : a 0 2 ≤ 0 + (1) * a 0 0 + (0) * a 1 0 + (0) * a 2 0 := by grind
  have s0 : 0 + (0) * a 0 0 + (0) * a 0 1 + (1) * a 0 2 ≤ a 0 2 := by grind
  have p1 : 0 ≤ (0 : Int) := by omega
  have q1 : 0 ≤ (0 : Int) := by omega
  have r1 : a 0 2 ≤ 0 + (1) * a 0 1 + (0) * a 1 1 + (0) * a 2 1 := by grind
  have s1 : 0 + (0) * a 1 0 + (0) * a 1 1 + (1) * a 1 2 ≤ a 0 2 := by grind
  have p2 : 0 ≤ (0 : Int) := by omega
  have q2 : 0 ≤ (1 : Int) := by omega
  have r2 : a 0 2 ≤ 0 + (1) * a 0 2 + (0) * a 1 2 + (0) * a 2 2 := by grind
  have s2 : 0 + (0) * a 2 0 + (0) * a 2 1 + (1) * a 2 2 ≤ a 0 2 := by grind
  have t : (0 : Int) < 1 := by grind
  exact ⟨t, fun m hm => match m, hm with | 0, _ => ⟨p0, q0, r0, s0⟩ | 1, _ => ⟨p1, q1, r1, s1⟩ | 2, _ => ⟨p2, q2, r2, s2⟩ | n + 3, h => absurd h (by omega)⟩
theorem g_k3 (a : Nat → Nat → Int) (H : ∀ q ∈ ([(4, 3), (6, 3), (10, 3), (11, 6)] : List (Nat × Nat)), q.2.testBit (g_sg (g_V a q.1)) = true) : gOk1 3 a 1 0 := by
  simp only [List.forall_mem_cons] at H
  have h0 : (a 1 0 - a 1 1) ≤ 0 := g_b3 _ H.1
  have h1 : (a 1 0 - a 1 2) ≤ 0 := g_b3 _ H.2.1
  have h2 : (a 0 0 - a 1 0) ≤ 0 := g_b3 _ H.2.2.1
  have h3 : 0 ≤ (a 1 0 - a 2 0) := g_b6 _ H.2.2.2.1
  left
  have p0 : 0 ≤ (0 : Int) := by omega
  have q0 : 0 ≤ (1 : Int) := by omega
  have r0 : a 1 0 ≤ 0 + (0) * a 0 0 + (1) * a 1 0 + (0) * a 2 0 := by grind
  have s0 : 0 + (1) * a 0 0 + (0) * a 0 1 + (0) * a 0 2 ≤ a 1 0 := by grind
  have p1 : 0 ≤ (1 : Int) := by omega
  have q1 : 0 ≤ (0 : Int) := by omega
  have r1 : a 1 0 ≤ 0 + (0) * a 0 1 + (1) * a 1 1 + (0) * a 2 1 := by grind
  have s1 : 0 + (1) * a 1 0 + (0) * a 1 1 + (0) * a 1 2 ≤ a 1 0 := by grind
  have p2 : 0 ≤ (0 : Int) := by omega
  have q2 : 0 ≤ (0 : Int) := by omega
  have r2 : a 1 0 ≤ 0 + (0) * a 0 2 + (1) * a 1 2 + (0) * a 2 2 := by grind
  have s2 : 0 + (1) * a 2 0 + (0) * a 2 1 + (0) * a 2 2 ≤ a 1 0 := by grind
  have t : (0 : Int) < 1 := by grind
  exact ⟨t, fun m hm => match m, hm with | 0, _ => ⟨p0, q0, r0, s0⟩ | 1, _ => ⟨p1, q1, r1, s1⟩ | 2, _ => ⟨p2, q2, r2, s2⟩ | n + 3, h => absurd h (by omega)⟩
theorem g_k4 (a : Nat → Nat → Int) (H : ∀ q ∈ ([(4, 6), (5, 3), (13, 3), (14, 6)] : List (Nat × Nat)), q.2.testBit (g_sg (g_V a q.1)) = true) : gOk1 3 a 1 1 := by
  simp only [List.forall_mem_cons] at H
  have h0 : 0 ≤ (a 1 0 - a 1 1) := g_b6 _ H.1
  have h1 : (a 1 1 - a 1 2) ≤ 0 := g_b3 _ H.2.1
  have h2 : (a 0 1 - a 1 1) ≤ 0 := g_b3 _ H.2.2.1
  have h3 : 0 ≤ (a 1 1 - a 2 1) := g_b6 _ H.2.2.2.1
  left
  have p0 : 0 ≤ (0 : Int) := by omega
  have q0 : 0 ≤ (0 : Int) := by omega
  have r0 : a 1 1 ≤ 0 + (0) * a 0 0 + (1) * a 1 0 + (0) * a 2 0 := by grind
  have s0 : 0 + (0) * a 0 0 + (1) * a 0 1 + (0) * a 0 2 ≤ a 1 1 := by grind
  have p1 : 0 ≤ (1 : Int) := by omega
  have q1 : 0 ≤ (1 : Int) := by omega
  have r1 : a 1 1 ≤ 0 + (0) * a 0 1 + (1) * a 1 1 + (0) * a 2 1 := by grind
  have s1 : 0 + (0) * a 1 0 + (1) * a 1 1 + (0) * a 1 2 ≤ a 1 1 := by grind
  have p2 : 0 ≤ (0 : Int) := by omega
  have q2 : 0 ≤ (0 : Int) := by omega
  have r2 : a 1 1 ≤ 0 + (0) * a 0 2 + (1) * a 1 2 + (0) * a 2 2 := by grind
  have s2 : 0 + (0) * a 2 0 + (1) * a 2 1 + (0) * a 2 2 ≤ a 1 1 := by grind
  have t : (0 : Int) < 1 := by grind
  exact ⟨t, fun m hm => match m, hm with | 0, _ => ⟨p0, q0, r0, s0⟩ | 1, _ => ⟨p1, q1, r1, s1⟩ | 2, _ => ⟨p2, q2, r2, s2⟩ | n + 3, h => absurd h (by omega)⟩
theorem g_k5 (a : Nat → Nat → Int) (H : ∀ q ∈ ([(6, 6), (5, 6), (16, 3), (17, 6)] : List (Nat × Nat)), q.2.testBit (g_sg (g_V a q.1)) = true) : gOk1 3 a 1 2 := by
  simp only [List.forall_mem_cons] at H
  have h0 : 0 ≤ (a 1 0 - a 1 2) := g_b6 _ H.1
  have h1 : 0 ≤ (a 1 1 - a 1 2) := g_b6 _ H.2.1
  have h2 : (a 0 2 - a 1 2) ≤ 0 := g_b3 _ H.2.2.1
  have h3 : 0 ≤ (a 1 2 - a 2 2) := g_b6 _ H.2.2.2.1
  left
  have p0 : 0 ≤ (0 : Int) := by omega
  have q0 : 0 ≤ (0 : Int) := by omega
  have r0 : a 1 2 ≤ 0 + (0) * a 0 0 + (1) * a 1 0 + (0) * a 2 0 := by grind
  have s0 : 0 + (0) * a 0 0 + (0) * a 0 1 + (1) * a 0 2 ≤ a 1 2 := by grind
  have p1 : 0 ≤ (1 : Int) := by omega
  have q1 : 0 ≤ (0 : Int) := by omega
  have r1 : a 1 2 ≤ 0 + (0) * a 0 1 + (1) * a 1 1 + (0) * a 2 1 := by grind
  have s1 : 0 + (0) * a 1 0 + (0) * a 1 1 + (1) * a 1 2 ≤ a 1 2 := by grind
  have p2 : 0 ≤ (0 : Int) := by omega
  have q2 : 0 ≤ (1 : Int) := by omega
  have r2 : a 1 2 ≤ 0 + (0) * a 0 2 + (1) * a 1 2 + (0) * a 2 2 := by grind
  have s2 : 0 + (0) * a 2 0 + (0) * a 2 1 + (1) * a 2 2 ≤ a 1 2 := by grind
  have t : (0 : Int) < 1 := by grind
  exact ⟨t, fun m hm => match m, hm with | 0, _ => ⟨p0, q0, r0, s0⟩ | 1, _ => ⟨p1, q1, r1, s1⟩ | 2, _ => ⟨p2, q2, r2, s2⟩ | n + 3, h => absurd h (by omega)⟩
theorem g_k6 (a : Nat → Nat → Int) (H : ∀ q ∈ ([(7, 3), (9, 3), (12, 3), (11, 3)] : List (Nat × Nat)), q.2.testBit (g_sg (g_V a q.1)) = true) : gOk1 3 a 2 0 := by
  simp only [List.forall_mem_cons] at H
  have h0 : (a 2 0 - a 2 1) ≤ 0 := g_b3 _ H.1
  have h1 : (a 2 0 - a 2 2) ≤ 0 := g_b3 _ H.2.1
  have h2 : (a 0 0 - a 2 0) ≤ 0 := g_b3 _ H.2.2.1
  have h3 : (a 1 0 - a 2 0) ≤ 0 := g_b3 _ H.2.2.2.1
  left
  have p0 : 0 ≤ (0 : Int) := by omega
  have q0 : 0 ≤ (1 : Int) := by omega
  have r0 : a 2 0 ≤ 0 + (0) * a 0 0 + (0) * a 1 0 + (1) * a 2 0 := by grind
  have s0 : 0 + (1) * a 0 0 + (0) * a 0 1 + (0) * a 0 2 ≤ a 2 0 := by grind
  have p1 : 0 ≤ (0 : Int) := by omega
  have q1 : 0 ≤ (0 : Int) := by omega
  have r1 : a 2 0 ≤ 0 + (0) * a 0 1 + (0) * a 1 1 + (1) * a 2 1 := by grind
  have s1 : 0 + (1) * a 1 0 + (0) * a 1 1 + (0) * a 1 2 ≤ a 2 0 := by grind
  have p2 : 0 ≤ (1 : Int) := by omega
  have q2 : 0 ≤ (0 : Int) := by omega
  have r2 : a 2 0 ≤ 0 + (0) * a 0 2 + (0) * a 1 2 + (1) * a 2 2 := by grind
  have s2 : 0 + (1) * a 2 0 + (0) * a 2 1 + (0) * a 2 2 ≤ a 2 0 := by grind
  have t : (0 : Int) < 1 := by grind
  exact ⟨t, fun m hm => match m, hm with | 0, _ => ⟨p0, q0, r0, s0⟩ | 1, _ => ⟨p1, q1, r1, s1⟩ | 2, _ => ⟨p2, q2, r2, s2⟩ | n + 3, h => absurd h (by omega)⟩
theorem g_k7 (a : Nat → Nat → Int) (H : ∀ q ∈ ([(7, 6), (8, 3), (15, 3), (14, 3)] : List (Nat × Nat)), q.2.testBit (g_sg (g_V a q.1)) = true) : gOk1 3 a 2 1 := by
  simp only [List.forall_mem_cons] at H
  have h0 : 0 ≤ (a 2 0 - a 2 1) := g_b6 _ H.1
  have h1 : (a 2 1 - a 2 2) ≤ 0 := g_b3 _ H.2.1
  have h2 : (a 0 1 - a 2 1) ≤ 0 := g_b3 _ H.2.2.1
  have h3 : (a 1 1 - a 2 1) ≤ 0 := g_b3 _ H.2.2.2.1
  left
  have p0 : 0 ≤ (0 : Int) := by omega
  have q0 : 0 ≤ (0 : Int) := by omega
  have r0 : a 2 1 ≤ 0 + (0) * a 0 0 + (0) * a 1 0 + (1) * a 2 0 := by grind
  have s0 : 0 + (0) * a 0 0 + (1) * a 0 1 + (0) * a 0 2 ≤ a 2 1 := by grind
  have p1 : 0 ≤ (0 : Int) := by omega
  have q1 : 0 ≤ (1 : Int) := by omega
  have r1 : a 2 1 ≤ 0 + (0) * a 0 1 + (0) * a 1 1 + (1) * a 2 1 := by grind
  have s1 : 0 + (0) * a 1 0 + (1) * a 1 1 + (0) * a 1 2 ≤ a 2 1 := by grind
  have p2 : 0 ≤ (1 : Int) := by omega
  have q2 : 0 ≤ (0 : Int) := by omega
  have r2 : a 2 1 ≤ 0 + (0) * a 0 2 + (0) * a 1 2 + (1) * a 2 2 := by grind
  have s2 : 0 + (0) * a 2 0 + (1) * a 2 1 + (0) * a 2 2 ≤ a 2 1 := by grind
  have t : (0 : Int) < 1 := by grind
  exact ⟨t, fun m hm => match m, hm with | 0, _ => ⟨p0, q0, r0, s0⟩ | 1, _ => ⟨p1, q1, r1, s1⟩ | 2, _ => ⟨p2, q2, r2, s2⟩ | n + 3, h => absurd h (by omega)⟩
theorem g_k8 (a : Nat → Nat → Int) (H : ∀ q ∈ ([(9, 6), (8, 6), (18, 3), (17, 3)] : List (Nat × Nat)), q.2.testBit (g_sg (g_V a q.1)) = true) : gOk1 3 a 2 2 := by
  simp only [List.forall_mem_cons] at H
  have h0 : 0 ≤ (a 2 0 - a 2 2) := g_b6 _ H.1
  have h1 : 0 ≤ (a 2 1 - a 2 2) := g_b6 _ H.2.1
  have h2 : (a 0 2 - a 2 2) ≤ 0 := g_b3 _ H.2.2.1
  have h3 : (a 1 2 - a 2 2) ≤ 0 := g_b3 _ H.2.2.2.1
  left
  have p0 : 0 ≤ (0 : Int) := by omega
  have q0 : 0 ≤ (0 : Int) := by omega
  have r0 : a 2 2 ≤ 0 + (0) * a 0 0 + (0) * a 1 0 + (1) * a 2 0 := by grind
  have s0 : 0 + (0) * a 0 0 + (0) * a 0 1 + (1) * a 0 2 ≤ a 2 2 := by grind
  have p1 : 0 ≤ (0 : Int) := by omega
  have q1 : 0 ≤ (0 : Int) := by omega
  have r1 : a 2 2 ≤ 0 + (0) * a 0 1 + (0) * a 1 1 + (1) * a 2 1 := by grind
  have s1 : 0 + (0) * a 1 0 + (0) * a 1 1 + (1) * a 1 2 ≤ a 2 2 := by grind
  have p2 : 0 ≤ (1 : Int) := by omega
  have q2 : 0 ≤ (1 : Int) := by omega
  have r2 : a 2 2 ≤ 0 + (0) * a 0 2 + (0) * a 1 2 + (1) * a 2 2 := by grind
  have s2 : 0 + (0) * a 2 0 + (0) * a 2 1 + (1) * a 2 2 ≤ a 2 2 := by grind
  have t : (0 : Int) < 1 := by grind
  exact ⟨t, fun m hm => match m, hm with | 0, _ => ⟨p0, q0, r0, s0⟩ | 1, _ => ⟨p1, q1, r1, s1⟩ | 2, _ => ⟨p2, q2, r2, s2⟩ | n + 3, h => absurd h (by omega)⟩
theorem g_k9 (a : Nat → Nat → Int) (H : ∀ q ∈ ([(19, 4), (4, 3), (1, 6), (13, 3), (10, 6), (30, 3), (33, 6)] : List (Nat × Nat)), q.2.testBit (g_sg (g_V a q.1)) = true) : gOk2 3 a 0 1 0 1 := by
  simp only [List.forall_mem_cons] at H
  have h0 : 0 < (a 0 0 - a 0 1 - a 1 0 + a 1 1) := g_b4 _ H.1
  have h1 : (a 1 0 - a 1 1) ≤ 0 := g_b3 _ H.2.1
  have h2 : 0 ≤ (a 0 0 - a 0 1) := g_b6 _ H.2.2.1
  have h3 : (a 0 1 - a 1 1) ≤ 0 := g_b3 _ H.2.2.2.1
  have h4 : 0 ≤ (a 0 0 - a 1 0) := g_b6 _ H.2.2.2.2.1
  have h5 : ((a 0 1 * a 1 2 - a 0 2 * a 1 1) + (a 0 2 * a 1 0 - a 0 0 * a 1 2) + (a 0 0 * a 1 1 - a 0 1 * a 1 0)) ≤ 0 := g_b3 _ H.2.2.2.2.2.1
  have h6 : 0 ≤ ((a 1 0 * a 2 1 - a 1 1 * a 2 0) + (a 2 0 * a 0 1 - a 2 1 * a 0 0) + (a 0 0 * a 1 1 - a 0 1 * a 1 0)) := g_b6 _ H.2.2.2.2.2.2.1
  left
  have p0 : 0 ≤ (a 1 1 - a 1 0 : Int) := by omega
  have q0 : 0 ≤ (a 1 1 - a 0 1 : Int) := by omega
  have r0 : (a 0 0 * a 1 1 - a 0 1 * a 1 0) ≤ 0 + (a 1 1 - a 1 0) * a 0 0 + (a 0 0 - a 0 1) * a 1 0 + (0) * a 2 0 := by grind
  have s0 : 0 + (a 1 1 - a 0 1) * a 0 0 + (a 0 0 - a 1 0) * a 0 1 + (0) * a 0 2 ≤ (a 0 0 * a 1 1 - a 0 1 * a 1 0) := by grind
  have p1 : 0 ≤ (a 0 0 - a 0 1 : Int) := by omega
  have q1 : 0 ≤ (a 0 0 - a 1 0 : Int) := by omega
  have r1 : (a 0 0 * a 1 1 - a 0 1 * a 1 0) ≤ 0 + (a 1 1 - a 1 0) * a 0 1 + (a 0 0 - a 0 1) * a 1 1 + (0) * a 2 1 := by grind
  have s1 : 0 + (a 1 1 - a 0 1) * a 1 0 + (a 0 0 - a 1 0) * a 1 1 + (0) * a 1 2 ≤ (a 0 0 * a 1 1 - a 0 1 * a 1 0) := by grind
  have p2 : 0 ≤ (0 : Int) := by omega
  have q2 : 0 ≤ (0 : Int) := by omega
  have r2 : (a 0 0 * a 1 1 - a 0 1 * a 1 0) ≤ 0 + (a 1 1 - a 1 0) * a 0 2 + (a 0 0 - a 0 1) * a 1 2 + (0) * a 2 2 := by grind
  have s2 : 0 + (a 1 1 - a 0 1) * a 2 0 + (a 0 0 - a 1 0) * a 2 1 + (0) * a 2 2 ≤ (a 0 0 * a 1 1 - a 0 1 * a 1 0) := by grind
  have t : 0 < (a 1 1 - a 1 0) + (a 0 0 - a 0 1) := by grind
  exact ⟨t, fun m hm => match m, hm with | 0, _ => ⟨p0, q0, r0, s0⟩ | 1, _ => ⟨p1, q1, r1, s1⟩ | 2, _ => ⟨p2, q2, r2, s2⟩ | n + 3, h => absurd h (by omega)⟩
theorem g_k10 (a : Nat → Nat → Int) (H : ∀ q ∈ ([(19, 1), (4, 6), (1, 3), (13, 6), (10, 3), (30, 6), (33, 3)] : List (Nat × Nat)), q.2.testBit (g_sg (g_V a q.1)) = true) : gOk2 3 a 0 1 0 1 := by
  simp only [List.forall_mem_cons] at H
  have h0 : (a 0 0 - a 0 1 - a 1 0 + a 1 1) < 0 := g_b1 _ H.1
  have h1 : 0 ≤ (a 1 0 - a 1 1) := g_b6 _ H.2.1
  have h2 : (a 0 0 - a 0 1) ≤ 0 := g_b3 _ H.2.2.1
  have h3 : 0 ≤ (a 0 1 - a 1 1) := g_b6 _ H.2.2.2.1
  have h4 : (a 0 0 - a 1 0) ≤ 0 := g_b3 _ H.2.2.2.2.1
  have h5 : 0 ≤ ((a 0 1 * a 1 2 - a 0 2 * a 1 1) + (a 0 2 * a 1 0 - a 0 0 * a 1 2) + (a 0 0 * a 1 1 - a 0 1 * a 1 0)) := g_b6 _ H.2.2.2.2.2.1
  have h6 : ((a 1 0 * a 2 1 - a 1 1 * a 2 0) + (a 2 0 * a 0 1 - a 2 1 * a 0 0) + (a 0 0 * a 1 1 - a 0 1 * a 1 0)) ≤ 0 := g_b3 _ H.2.2.2.2.2.2.1
  right
  have p0 : 0 ≤ (-(a 1 1 - a 1 0) : Int) := by omega
  have q0 : 0 ≤ (-(a 1 1 - a 0 1) : Int) := by omega
  have r0 : -((a 0 0 * a 1 1 - a 0 1 * a 1 0)) ≤ 0 + (-(a 1 1 - a 1 0)) * a 0 0 + (-(a 0 0 - a 0 1)) * a 1 0 + (-(0)) * a 2 0 := by grind
  have s0 : 0 + (-(a 1 1 - a 0 1)) * a 0 0 + (-(a 0 0 - a 1 0)) * a 0 1 + (-(0)) * a 0 2 ≤ -((a 0 0 * a 1 1 - a 0 1 * a 1 0)) := by grind
  have p1 : 0 ≤ (-(a 0 0 - a 0 1) : Int) := by omega
  have q1 : 0 ≤ (-(a 0 0 - a 1 0) : Int) := by omega
  have r1 : -((a 0 0 * a 1 1 - a 0 1 * a 1 0)) ≤ 0 + (-(a 1 1 - a 1 0)) * a 0 1 + (-(a 0 0 - a 0 1)) * a 1 1 + (-(0)) * a 2 1 := by grind
  have s1 : 0 + (-(a 1 1 - a 0 1)) * a 1 0 + (-(a 0 0 - a 1 0)) * a 1 1 + (-(0)) * a 1 2 ≤ -((a 0 0 * a 1 1 - a 0 1 * a 1 0)) := by grind
  have p2 : 0 ≤ (-(0) : Int) := by omega
  have q2 : 0 ≤ (-(0) : Int) := by omega
  have r2 : -((a 0 0 * a 1 1 - a 0 1 * a 1 0)) ≤ 0 + (-(a 1 1 - a 1 0)) * a 0 2 + (-(a 0 0 - a 0 1)) * a 1 2 + (-(0)) * a 2 2 := by grind
  have s2 : 0 + (-(a 1 1 - a 0 1)) * a 2 0 + (-(a 0 0 - a 1 0)) * a 2 1 + (-(0)) * a 2 2 ≤ -((a 0 0 * a 1 1 - a 0 1 * a 1 0)) := by grind
  have t : (a 1 1 - a 1 0) + (a 0 0 - a 0 1) < 0 := by grind
  exact ⟨t, fun m hm => match m, hm with | 0, _ => ⟨p0, q0, r0, s0⟩ | 1, _ => ⟨p1, q1, r1, s1⟩ | 2, _ => ⟨p2, q2, r2, s2⟩ | n + 3, h => absurd h (by omega)⟩
theorem g_k11 (a : Nat → Nat → Int) (H : ∀ q ∈ ([(21, 4), (6, 3), (3, 6), (16, 3), (10, 6), (30, 6), (32, 3)] : List (Nat × Nat)), q.2.testBit (g_sg (g_V a q.1)) = true) : gOk2 3 a 0 1 0 2 := by
  simp only [List.forall_mem_cons] at H
  have h0 : 0 < (a 0 0 - a 0 2 - a 1 0 + a 1 2) := g_b4 _ H.1
  have h1 : (a 1 0 - a 1 2) ≤ 0 := g_b3 _ H.2.1
  have h2 : 0 ≤ (a 0 0 - a 0 2) := g_b6 _ H.2.2.1
  have h3 : (a 0 2 - a 1 2) ≤ 0 := g_b3 _ H.2.2.2.1
  have h4 : 0 ≤ (a 0 0 - a 1 0) := g_b6 _ H.2.2.2.2.1
  have h5 : 0 ≤ ((a 0 1 * a 1 2 - a 0 2 * a 1 1) + (a 0 2 * a 1 0 - a 0 0 * a 1 2) + (a 0 0 * a 1 1 - a 0 1 * a 1 0)) := g_b6 _ H.2.2.2.2.2.1
  have h6 : ((a 1 2 * a 2 0 - a 1 0 * a 2 2) + (a 2 2 * a 0 0 - a 2 0 * a 0 2) + (a 0 2 * a 1 0 - a 0 0 * a 1 2)) ≤ 0 := g_b3 _ H.2.2.2.2.2.2.1
  left
  have p0 : 0 ≤ (a 1 2 - a 1 0 : Int) := by omega
  have q0 : 0 ≤ (a 1 2 - a 0 2 : Int) := by omega
  have r0 : (a 0 0 * a 1 2 - a 0 2 * a 1 0) ≤ 0 + (a 1 2 - a 1 0) * a 0 0 + (a 0 0 - a 0 2) * a 1 0 + (0) * a 2 0 := by grind
  have s0 : 0 + (a 1 2 - a 0 2) * a 0 0 + (0) * a 0 1 + (a 0 0 - a 1 0) * a 0 2 ≤ (a 0 0 * a 1 2 - a 0 2 * a 1 0) := by grind
  have p1 : 0 ≤ (a 0 0 - a 0 2 : Int) := by omega
  have q1 : 0 ≤ (0 : Int) := by omega
  have r1 : (a 0 0 * a 1 2 - a 0 2 * a 1 0) ≤ 0 + (a 1 2 - a 1 0) * a 0 1 + (a 0 0 - a 0 2) * a 1 1 + (0) * a 2 1 := by grind
  have s1 : 0 + (a 1 2 - a 0 2) * a 1 0 + (0) * a 1 1 + (a 0 0 - a 1 0) * a 1 2 ≤ (a 0 0 * a 1 2 - a 0 2 * a 1 0) := by grind
  have p2 : 0 ≤ (0 : Int) := by omega
  have q2 : 0 ≤ (a 0 0 - a 1 0 : Int) := by omega
  have r2 : (a 0 0 * a 1 2 - a 0 2 * a 1 0) ≤ 0 + (a 1 2 - a 1 0) * a 0 2 + (a 0 0 - a 0 2) * a 1 2 + (0) * a 2 2 := by grind
  have s2 : 0 + (a 1 2 - a 0 2) * a 2 0 + (0) * a 2 1 + (a 0 0 - a 1 0) * a 2 2 ≤ (a 0 0 * a 1 2 - a 0 2 * a 1 0) := by grind
  have t : 0 < (a 1 2 - a 1 0) + (a 0 0 - a 0 2) := by grind
  exact ⟨t, fun m hm => match m, hm with | 0, _ => ⟨p0, q0, r0, s0⟩ | 1, _ => ⟨p1, q1, r1, s1⟩ | 2, _ => ⟨p2, q2, r2, s2⟩ | n + 3, h => absurd h (by omega)⟩
theorem g_k12 (a : Nat → Nat → Int) (H : ∀ q ∈ ([(21, 1), (6, 6), (3, 3), (16, 6), (10, 3), (30, 3), (32, 6)] : List (Nat × Nat)), q.2.testBit (g_sg (g_V a q.1)) = true) : gOk2 3 a 0 1 0 2 := by
  simp only [List.forall_mem_cons] at H
  have h0 : (a 0 0 - a 0 2 - a 1 0 + a 1 2) < 0 := g_b1 _ H.1
  have h1 : 0 ≤ (a 1 0 - a 1 2) := g_b6 _ H.2.1
  have h2 : (a 0 0 - a 0 2) ≤ 0 := g_b3 _ H.2.2.1
  have h3 : 0 ≤ (a 0 2 - a 1 2) := g_b6 _ H.2.2.2.1
  have h4 : (a 0 0 - a 1 0) ≤ 0 := g_b3 _ H.2.2.2.2.1
  have h5 : ((a 0 1 * a 1 2 - a 0 2 * a 1 1) + (a 0 2 * a 1 0 - a 0 0 * a 1 2) + (a 0 0 * a 1 1 - a 0 1 * a 1 0)) ≤ 0 := g_b3 _ H.2.2.2.2.2.1
  have h6 : 0 ≤ ((a 1 2 * a 2 0 - a 1 0 * a 2 2) + (a 2 2 * a 0 0 - a 2 0 * a 0 2) + (a 0 2 * a 1 0 - a 0 0 * a 1 2)) := g_b6 _ H.2.2.2.2.2.2.1
  right
  have p0 : 0 ≤ (-(a 1 2 - a 1 0) : Int) := by omega
  have q0 : 0 ≤ (-(a 1 2 - a 0 2) : Int) := by omega
  have r0 : -((a 0 0 * a 1 2 - a 0 2 * a 1 0)) ≤ 0 + (-(a 1 2 - a 1 0)) * a 0 0 + (-(a 0 0 - a 0 2)) * a 1 0 + (-(0)) * a 2 0 := by grind
  have s0 : 0 + (-(a 1 2 - a 0 2)) * a 0 0 + (-(0)) * a 0 1 + (-(a 0 0 - a 1 0)) * a 0 2 ≤ -((a 0 0 * a 1 2 - a 0 2 * a 1 0)) := by grind
  have p1 : 0 ≤ (-(a 0 0 - a 0 2) : Int) := by omega
  have q1 : 0 ≤ (-(0) : Int) := by omega
  have r1 : -((a 0 0 * a 1 2 - a 0 2 * a 1 0)) ≤ 0 + (-(a 1 2 - a 1 0)) * a 0 1 + (-(a 0 0 - a 0 2)) * a 1 1 + (-(0)) * a 2 1 := by grind
  have s1 : 0 + (-(a 1 2 - a 0 2)) * a 1 0 + (-(0)) * a 1 1 + (-(a 0 0 - a 1 0)) * a 1 2 ≤ -((a 0 0 * a 1 2 - a 0 2 * a 1 0)) := by grind
  have p2 : 0 ≤ (-(0) : Int) := by omega
  have q2 : 0 ≤ (-(a 0 0 - a 1 0) : Int) := by omega
  have r2 : -((a 0 0 * a 1 2 - a 0 2 * a 1 0)) ≤ 0 + (-(a 1 2 - a 1 0)) * a 0 2 + (-(a 0 0 - a 0 2)) * a 1 2 + (-(0)) * a 2 2 := by grind
  have s2 : 0 + (-(a 1 2 - a 0 2)) * a 2 0 + (-(0)) * a 2 1 + (-(a 0 0 - a 1 0)) * a 2 2 ≤ -((a 0 0 * a 1 2 - a 0 2 * a 1 0)) := by grind
  have t : (a 1 2 - a 1 0) + (a 0 0 - a 0 2) < 0 := by grind
  exact ⟨t, fun m hm => match m, hm with | 0, _ => ⟨p0, q0, r0, s0⟩ | 1, _ => ⟨p1, q1, r1, s1⟩ | 2, _ => ⟨p2, q2, r2, s2⟩ | n + 3, h => absurd h (by omega)⟩
theorem g_k13 (a : Nat → Nat → Int) (H : ∀ q ∈ ([(20, 4), (5, 3), (2, 6), (16, 3), (13, 6), (30, 3), (31, 6)] : List (Nat × Nat)), q.2.testBit (g_sg (g_V a q.1)) = true) : gOk2 3 a 0 1 1 2 := by
  simp only [List.forall_mem_cons] at H
  have h0 : 0 < (a 0 1 - a 0 2 - a 1 1 + a 1 2) := g_b4 _ H.1
  have h1 : (a 1 1 - a 1 2) ≤ 0 := g_b3 _ H.2.1
  have h2 : 0 ≤ (a 0 1 - a 0 2) := g_b6 _ H.2.2.1
  have h3 : (a 0 2 - a 1 2) ≤ 0 := g_b3 _ H.2.2.2.1
  have h4 : 0 ≤ (a 0 1 - a 1 1) := g_b6 _ H.2.2.2.2.1
  have h5 : ((a 0 1 * a 1 2 - a 0 2 * a 1 1) + (a 0 2 * a 1 0 - a 0 0 * a 1 2) + (a 0 0 * a 1 1 - a 0 1 * a 1 0)) ≤ 0 := g_b3 _ H.2.2.2.2.2.1
  have h6 : 0 ≤ ((a 1 1 * a 2 2 - a 1 2 * a 2 1) + (a 2 1 * a 0 2 - a 2 2 * a 0 1) + (a 0 1 * a 1 2 - a 0 2 * a 1 1)) := g_b6 _ H.2.2.2.2.2.2.1
  left
  have p0 : 0 ≤ (a 1 2 - a 1 1 : Int) := by omega
  have q0 : 0 ≤ (0 : Int) := by omega
  have r0 : (a 0 1 * a 1 2 - a 0 2 * a 1 1) ≤ 0 + (a 1 2 - a 1 1) * a 0 0 + (a 0 1 - a 0 2) * a 1 0 + (0) * a 2 0 := by grind
  have s0 : 0 + (0) * a 0 0 + (a 1 2 - a 0 2) * a 0 1 + (a 0 1 - a 1 1) * a 0 2 ≤ (a 0 1 * a 1 2 - a 0 2 * a 1 1) := by grind
  have p1 : 0 ≤ (a 0 1 - a 0 2 : Int) := by omega
  have q1 : 0 ≤ (a 1 2 - a 0 2 : Int) := by omega
  have r1 : (a 0 1 * a 1 2 - a 0 2 * a 1 1) ≤ 0 + (a 1 2 - a 1 1) * a 0 1 + (a 0 1 - a 0 2) * a 1 1 + (0) * a 2 1 := by grind
  have s1 : 0 + (0) * a 1 0 + (a 1 2 - a 0 2) * a 1 1 + (a 0 1 - a 1 1) * a 1 2 ≤ (a 0 1 * a 1 2 - a 0 2 * a 1 1) := by grind
  have p2 : 0 ≤ (0 : Int) := by omega
  have q2 : 0 ≤ (a 0 1 - a 1 1 : Int) := by omega
  have r2 : (a 0 1 * a 1 2 - a 0 2 * a 1 1) ≤ 0 + (a 1 2 - a 1 1) * a 0 2 + (a 0 1 - a 0 2) * a 1 2 + (0) * a 2 2 := by grind
  have s2 : 0 + (0) * a 2 0 + (a 1 2 - a 0 2) * a 2 1 + (a 0 1 - a 1 1) * a 2 2 ≤ (a 0 1 * a 1 2 - a 0 2 * a 1 1) := by grind
  have t : 0 < (a 1 2 - a 1 1) + (a 0 1 - a 0 2) := by grind
  exact ⟨t, fun m hm => match m, hm with | 0, _ => ⟨p0, q0, r0, s0⟩ | 1, _ => ⟨p1, q1, r1, s1⟩ | 2, _ => ⟨p2, q2, r2, s2⟩ | n + 3, h => absurd h (by omega)⟩
theorem g_k14 (a : Nat → Nat → Int) (H : ∀ q ∈ ([(20, 1), (5, 6), (2, 3), (16, 6), (13, 3), (30, 6), (31, 3)] : List (Nat × Nat)), q.2.testBit (g_sg (g_V a q.1)) = true) : gOk2 3 a 0 1 1 2 := by
  simp only [List.forall_mem_cons] at H
  have h0 : (a 0 1 - a 0 2 - a 1 1 + a 1 2) < 0 := g_b1 _ H.1
  have h1 : 0 ≤ (a 1 1 - a 1 2) := g_b6 _ H.2.1
  have h2 : (a 0 1 - a 0 2) ≤ 0 := g_b3 _ H.2.2.1
  have h3 : 0 ≤ (a 0 2 - a 1 2) := g_b6 _ H.2.2.2.1
  have h4 : (a 0 1 - a 1 1) ≤ 0 := g_b3 _ H.2.2.2.2.1
  have h5 : 0 ≤ ((a 0 1 * a 1 2 - a 0 2 * a 1 1) + (a 0 2 * a 1 0 - a 0 0 * a 1 2) + (a 0 0 * a 1 1 - a 0 1 * a 1 0)) := g_b6 _ H.2.2.2.2.2.1
  have h6 : ((a 1 1 * a 2 2 - a 1 2 * a 2 1) + (a 2 1 * a 0 2 - a 2 2 * a 0 1) + (a 0 1 * a 1 2 - a 0 2 * a 1 1)) ≤ 0 := g_b3 _ H.2.2.2.2.2.2.1
  right
  have p0 : 0 ≤ (-(a 1 2 - a 1 1) : Int) := by omega
  have q0 : 0 ≤ (-(0) : Int) := by omega
  have r0 : -((a 0 1 * a 1 2 - a 0 2 * a 1 1)) ≤ 0 + (-(a 1 2 - a 1 1)) * a 0 0 + (-(a 0 1 - a 0 2)) * a 1 0 + (-(0)) * a 2 0 := by grind
  have s0 : 0 + (-(0)) * a 0 0 + (-(a 1 2 - a 0 2)) * a 0 1 + (-(a 0 1 - a 1 1)) * a 0 2 ≤ -((a 0 1 * a 1 2 - a 0 2 * a 1 1)) := by grind
  have p1 : 0 ≤ (-(a 0 1 - a 0 2) : Int) := by omega
  have q1 : 0 ≤ (-(a 1 2 - a 0 2) : Int) := by omega
  have r1 : -((a 0 1 * a 1 2 - a 0 2 * a 1 1)) ≤ 0 + (-(a 1 2 - a 1 1)) * a 0 1 + (-(a 0 1 - a 0 2)) * a 1 1 + (-(0)) * a 2 1 := by grind
  have s1 : 0 + (-(0)) * a 1 0 + (-(a 1 2 - a 0 2)) * a 1 1 + (-(a 0 1 - a 1 1)) * a 1 2 ≤ -((a 0 1 * a 1 2 - a 0 2 * a 1 1)) := by grind
  have p2 : 0 ≤ (-(0) : Int) := by omega
  have q2 : 0 ≤ (-(a 0 1 - a 1 1) : Int) := by omega
  have r2 : -((a 0 1 * a 1 2 - a 0 2 * a 1 1)) ≤ 0 + (-(a 1 2 - a 1 1)) * a 0 2 + (-(a 0 1 - a 0 2)) * a 1 2 + (-(0)) * a 2 2 := by grind
  have s2 : 0 + (-(0)) * a 2 0 + (-(a 1 2 - a 0 2)) * a 2 1 + (-(a 0 1 - a 1 1)) * a 2 2 ≤ -((a 0 1 * a 1 2 - a 0 2 * a 1 1)) := by grind
  have t : (a 1 2 - a 1 1) + (a 0 1 - a 0 2) < 0 := by grind
  exact ⟨t, fun m hm => match m, hm with | 0, _ => ⟨p0, q0, r0, s0⟩ | 1, _ => ⟨p1, q1, r1, s1⟩ | 2, _ => ⟨p2, q2, r2, s2⟩ | n + 3, h => absurd h (by omega)⟩
theorem g_k15 (a : Nat → Nat → Int) (H : ∀ q ∈ ([(25, 4), (7, 3), (1, 6), (15, 3), (12, 6), (29, 6), (33, 3)] : List (Nat × Nat)), q.2.testBit (g_sg (g_V a q.1)) = true) : gOk2 3 a 0 2 0 1 := by
  simp only [List.forall_mem_cons] at H
  have h0 : 0 < (a 0 0 - a 0 1 - a 2 0 + a 2 1) := g_b4 _ H.1
  have h1 : (a 2 0 - a 2 1) ≤ 0 := g_b3 _ H.2.1
  have h2 : 0 ≤ (a 0 0 - a 0 1) := g_b6 _ H.2.2.1
  have h3 : (a 0 1 - a 2 1) ≤ 0 := g_b3 _ H.2.2.2.1
  have h4 : 0 ≤ (a 0 0 - a 2 0) := g_b6 _ H.2.2.2.2.1
  have h5 : 0 ≤ ((a 2 1 * a 0 2 - a 2 2 * a 0 1) + (a 2 2 * a 0 0 - a 2 0 * a 0 2) + (a 2 0 * a 0 1 - a 2 1 * a 0 0)) := g_b6 _ H.2.2.2.2.2.1
  have h6 : ((a 1 0 * a 2 1 - a 1 1 * a 2 0) + (a 2 0 * a 0 1 - a 2 1 * a 0 0) + (a 0 0 * a 1 1 - a 0 1 * a 1 0)) ≤ 0 := g_b3 _ H.2.2.2.2.2.2.1
  left
  have p0 : 0 ≤ (a 2 1 - a 2 0 : Int) := by omega
  have q0 : 0 ≤ (a 2 1 - a 0 1 : Int) := by omega
  have r0 : (a 0 0 * a 2 1 - a 0 1 * a 2 0) ≤ 0 + (a 2 1 - a 2 0) * a 0 0 + (0) * a 1 0 + (a 0 0 - a 0 1) * a 2 0 := by grind
  have s0 : 0 + (a 2 1 - a 0 1) * a 0 0 + (a 0 0 - a 2 0) * a 0 1 + (0) * a 0 2 ≤ (a 0 0 * a 2 1 - a 0 1 * a 2 0) := by grind
  have p1 : 0 ≤ (0 : Int) := by omega
  have q1 : 0 ≤ (a 0 0 - a 2 0 : Int) := by omega
  have r1 : (a 0 0 * a 2 1 - a 0 1 * a 2 0) ≤ 0 + (a 2 1 - a 2 0) * a 0 1 + (0) * a 1 1 + (a 0 0 - a 0 1) * a 2 1 := by grind
  have s1 : 0 + (a 2 1 - a 0 1) * a 1 0 + (a 0 0 - a 2 0) * a 1 1 + (0) * a 1 2 ≤ (a 0 0 * a 2 1 - a 0 1 * a 2 0) := by grind
  have p2 : 0 ≤ (a 0 0 - a 0 1 : Int) := by omega
  have q2 : 0 ≤ (0 : Int) := by omega
  have r2 : (a 0 0 * a 2 1 - a 0 1 * a 2 0) ≤ 0 + (a 2 1 - a 2 0) * a 0 2 + (0) * a 1 2 + (a 0 0 - a 0 1) * a 2 2 := by grind
  have s2 : 0 + (a 2 1 - a 0 1) * a 2 0 + (a 0 0 - a 2 0) * a 2 1 + (0) * a 2 2 ≤ (a 0 0 * a 2 1 - a 0 1 * a 2 0) := by grind
  have t : 0 < (a 2 1 - a 2 0) + (a 0 0 - a 0 1) := by grind
  exact ⟨t, fun m hm => match m, hm with | 0, _ => ⟨p0, q0, r0, s0⟩ | 1, _ => ⟨p1, q1, r1, s1⟩ | 2, _ => ⟨p2, q2, r2, s2⟩ | n + 3, h => absurd h (by omega)⟩
theorem g_k16 (a : Nat → Nat → Int) (H : ∀ q ∈ ([(25, 1), (7, 6), (1, 3), (15, 6), (12, 3), (29, 3), (33, 6)] : List (Nat × Nat)), q.2.testBit (g_sg (g_V a q.1)) = true) : gOk2 3 a 0 2 0 1 := by
  simp only [List.forall_mem_cons] at H
  have h0 : (a 0 0 - a 0 1 - a 2 0 + a 2 1) < 0 := g_b1 _ H.1
  have h1 : 0 ≤ (a 2 0 - a 2 1) := g_b6 _ H.2.1
  have h2 : (a 0 0 - a 0 1) ≤ 0 := g_b3 _ H.2.2.1
  have h3 : 0 ≤ (a 0 1 - a 2 1) := g_b6 _ H.2.2.2.1
  have h4 : (a 0 0 - a 2 0) ≤ 0 := g_b3 _ H.2.2.2.2.1
  have h5 : ((a 2 1 * a 0 2 - a 2 2 * a 0 1) + (a 2 2 * a 0 0 - a 2 0 * a 0 2) + (a 2 0 * a 0 1 - a 2 1 * a 0 0)) ≤ 0 := g_b3 _ H.2.2.2.2.2.1
  have h6 : 0 ≤ ((a 1 0 * a 2 1 - a 1 1 * a 2 0) + (a 2 0 * a 0 1 - a 2 1 * a 0 0) + (a 0 0 * a 1 1 - a 0 1 * a 1 0)) := g_b6 _ H.2.2.2.2.2.2.1
  right
  have p0 : 0 ≤ (-(a 2 1 - a 2 0) : Int) := by omega
  have q0 : 0 ≤ (-(a 2 1 - a 0 1) : Int) := by omega
  have r0 : -((a 0 0 * a 2 1 - a 0 1 * a 2 0)) ≤ 0 + (-(a 2 1 - a 2 0)) * a 0 0 + (-(0)) * a 1 0 + (-(a 0 0 - a 0 1)) * a 2 0 := by grind
  have s0 : 0 + (-(a 2 1 - a 0 1)) * a 0 0 + (-(a 0 0 - a 2 0)) * a 0 1 + (-(0)) * a 0 2 ≤ -((a 0 0 * a 2 1 - a 0 1 * a 2 0)) := by grind
  have p1 : 0 ≤ (-(0) : Int) := by omega
  have q1 : 0 ≤ (-(a 0 0 - a 2 0) : Int) := by omega
  have r1 : -((a 0 0 * a 2 1 - a 0 1 * a 2 0)) ≤ 0 + (-(a 2 1 - a 2 0)) * a 0 1 + (-(0)) * a 1 1 + (-(a 0 0 - a 0 1)) * a 2 1 := by grind
  have s1 : 0 + (-(a 2 1 - a 0 1)) * a 1 0 + (-(a 0 0 - a 2 0)) * a 1 1 + (-(0)) * a 1 2 ≤ -((a 0 0 * a 2 1 - a 0 1 * a 2 0)) := by grind
  have p2 : 0 ≤ (-(a 0 0 - a 0 1) : Int) := by omega
  have q2 : 0 ≤ (-(0) : Int) := by omega
  have r2 : -((a 0 0 * a 2 1 - a 0 1 * a 2 0)) ≤ 0 + (-(a 2 1 - a 2 0)) * a 0 2 + (-(0)) * a 1 2 + (-(a 0 0 - a 0 1)) * a 2 2 := by grind
  have s2 : 0 + (-(a 2 1 - a 0 1)) * a 2 0 + (-(a 0 0 - a 2 0)) * a 2 1 + (-(0)) * a 2 2 ≤ -((a 0 0 * a 2 1 - a 0 1 * a 2 0)) := by grind
  have t : (a 2 1 - a 2 0) + (a 0 0 - a 0 1) < 0 := by grind
  exact ⟨t, fun m hm => match m, hm with | 0, _ => ⟨p0, q0, r0, s0⟩ | 1, _ => ⟨p1, q1, r1, s1⟩ | 2, _ => ⟨p2, q2, r2, s2⟩ | n + 3, h => absurd h (by omega)⟩
theorem g_k17 (a : Nat → Nat → Int) (H : ∀ q ∈ ([(27, 4), (9, 3), (3, 6), (18, 3), (12, 6), (29, 3), (32, 6)] : List (Nat × Nat)), q.2.testBit (g_sg (g_V a q.1)) = true) : gOk2 3 a 0 2 0 2 := by
  simp only [List.forall_mem_cons] at H
  have h0 : 0 < (a 0 0 - a 0 2 - a 2 0 + a 2 2) := g_b4 _ H.1
  have h1 : (a 2 0 - a 2 2) ≤ 0 := g_b3 _ H.2.1
  have h2 : 0 ≤ (a 0 0 - a 0 2) := g_b6 _ H.2.2.1
  have h3 : (a 0 2 - a 2 2) ≤ 0 := g_b3 _ H.2.2.2.1
  have h4 : 0 ≤ (a 0 0 - a 2 0) := g_b6 _ H.2.2.2.2.1
  have h5 : ((a 2 1 * a 0 2 - a 2 2 * a 0 1) + (a 2 2 * a 0 0 - a 2 0 * a 0 2) + (a 2 0 * a 0 1 - a 2 1 * a 0 0)) ≤ 0 := g_b3 _ H.2.2.2.2.2.1
  have h6 : 0 ≤ ((a 1 2 * a 2 0 - a 1 0 * a 2 2) + (a 2 2 * a 0 0 - a 2 0 * a 0 2) + (a 0 2 * a 1 0 - a 0 0 * a 1 2)) := g_b6 _ H.2.2.2.2.2.2.1
  left
  have p0 : 0 ≤ (a 2 2 - a 2 0 : Int) := by omega
  have q0 : 0 ≤ (a 2 2 - a 0 2 : Int) := by omega
  have r0 : (a 0 0 * a 2 2 - a 0 2 * a 2 0) ≤ 0 + (a 2 2 - a 2 0) * a 0 0 + (0) * a 1 0 + (a 0 0 - a 0 2) * a 2 0 := by grind
  have s0 : 0 + (a 2 2 - a 0 2) * a 0 0 + (0) * a 0 1 + (a 0 0 - a 2 0) * a 0 2 ≤ (a 0 0 * a 2 2 - a 0 2 * a 2 0) := by grind
  have p1 : 0 ≤ (0 : Int) := by omega
  have q1 : 0 ≤ (0 : Int) := by omega
  have r1 : (a 0 0 * a 2 2 - a 0 2 * a 2 0) ≤ 0 + (a 2 2 - a 2 0) * a 0 1 + (0) * a 1 1 + (a 0 0 - a 0 2) * a 2 1 := by grind
  have s1 : 0 + (a 2 2 - a 0 2) * a 1 0 + (0) * a 1 1 + (a 0 0 - a 2 0) * a 1 2 ≤ (a 0 0 * a 2 2 - a 0 2 * a 2 0) := by grind
  have p2 : 0 ≤ (a 0 0 - a 0 2 : Int) := by omega
  have q2 : 0 ≤ (a 0 0 - a 2 0 : Int) := by omega
  have r2 : (a 0 0 * a 2 2 - a 0 2 * a 2 0) ≤ 0 + (a 2 2 - a 2 0) * a 0 2 + (0) * a 1 2 + (a 0 0 - a 0 2) * a 2 2 := by grind
  have s2 : 0 + (a 2 2 - a 0 2) * a 2 0 + (0) * a 2 1 + (a 0 0 - a 2 0) * a 2 2 ≤ (a 0 0 * a 2 2 - a 0 2 * a 2 0) := by grind
  have t : 0 < (a 2 2 - a 2 0) + (a 0 0 - a 0 2) := by grind
  exact ⟨t, fun m hm => match m, hm with | 0, _ => ⟨p0, q0, r0, s0⟩ | 1, _ => ⟨p1, q1, r1, s1⟩ | 2, _ => ⟨p2, q2, r2, s2⟩ | n + 3, h => absurd h (by omega)⟩
theorem g_k18 (a : Nat → Nat → Int) (H : ∀ q ∈ ([(27, 1), (9, 6), (3, 3), (18, 6), (12, 3), (29, 6), (32, 3)] : List (Nat × Nat)), q.2.testBit (g_sg (g_V a q.1)) = true) : gOk2 3 a 0 2 0 2 := by
  simp only [List.forall_mem_cons] at H
  have h0 : (a 0 0 - a 0 2 - a 2 0 + a 2 2) < 0 := g_b1 _ H.1
  have h1 : 0 ≤ (a 2 0 - a 2 2) := g_b6 _ H.2.1
  have h2 : (a 0 0 - a 0 2) ≤ 0 := g_b3 _ H.2.2.1
  have h3 : 0 ≤ (a 0 2 - a 2 2) := g_b6 _ H.2.2.2.1
  have h4 : (a 0 0 - a 2 0) ≤ 0 := g_b3 _ H.2.2.2.2.1
  have h5 : 0 ≤ ((a 2 1 * a 0 2 - a 2 2 * a 0 1) + (a 2 2 * a 0 0 - a 2 0 * a 0 2) + (a 2 0 * a 0 1 - a 2 1 * a 0 0)) := g_b6 _ H.2.2.2.2.2.1
  have h6 : ((a 1 2 * a 2 0 - a 1 0 * a 2 2) + (a 2 2 * a 0 0 - a 2 0 * a 0 2) + (a 0 2 * a 1 0 - a 0 0 * a 1 2)) ≤ 0 := g_b3 _ H.2.2.2.2.2.2.1
  right
  have p0 : 0 ≤ (-(a 2 2 - a 2 0) : Int) := by omega
  have q0 : 0 ≤ (-(a 2 2 - a 0 2) : Int) := by omega
  have r0 : -((a 0 0 * a 2 2 - a 0 2 * a 2 0)) ≤ 0 + (-(a 2 2 - a 2 0)) * a 0 0 + (-(0)) * a 1 0 + (-(a 0 0 - a 0 2)) * a 2 0 := by grind
  have s0 : 0 + (-(a 2 2 - a 0 2)) * a 0 0 + (-(0)) * a 0 1 + (-(a 0 0 - a 2 0)) * a 0 2 ≤ -((a 0 0 * a 2 2 - a 0 2 * a 2 0)) := by grind
  have p1 : 0 ≤ (-(0) : Int) := by omega
  have q1 : 0 ≤ (-(0) : Int) := by omega
  have r1 : -((a 0 0 * a 2 2 - a 0 2 * a 2 0)) ≤ 0 + (-(a 2 2 - a 2 0)) * a 0 1 + (-(0)) * a 1 1 + (-(a 0 0 - a 0 2)) * a 2 1 := by grind
  have s1 : 0 + (-(a 2 2 - a 0 2)) * a 1 0 + (-(0)) * a 1 1 + (-(a 0 0 - a 2 0)) * a 1 2 ≤ -((a 0 0 * a 2 2 - a 0 2 * a 2 0)) := by grind
  have p2 : 0 ≤ (-(a 0 0 - a 0 2) : Int) := by omega
  have q2 : 0 ≤ (-(a 0 0 - a 2 0) : Int) := by omega
  have r2 : -((a 0 0 * a 2 2 - a 0 2 * a 2 0)) ≤ 0 + (-(a 2 2 - a 2 0)) * a 0 2 + (-(0)) * a 1 2 + (-(a 0 0 - a 0 2)) * a 2 2 := by grind
  have s2 : 0 + (-(a 2 2 - a 0 2)) * a 2 0 + (-(0)) * a 2 1 + (-(a 0 0 - a 2 0)) * a 2 2 ≤ -((a 0 0 * a 2 2 - a 0 2 * a 2 0)) := by grind
  have t : (a 2 2 - a 2 0) + (a 0 0 - a 0 2) < 0 := by grind
  exact ⟨t, fun m hm => match m, hm with | 0, _ => ⟨p0, q0, r0, s0⟩ | 1, _ => ⟨p1, q1, r1, s1⟩ | 2, _ => ⟨p2, q2, r2, s2⟩ | n + 3, h => absurd h (by omega)⟩
theorem g_k19 (a : Nat → Nat → Int) (H : ∀ q ∈ ([(26, 4), (8, 3), (2, 6), (18, 3), (15, 6), (29, 6), (31, 3)] : List (Nat × Nat)), q.2.testBit (g_sg (g_V a q.1)) = true) : gOk2 3 a 0 2 1 2 := by
  simp only [List.forall_mem_cons] at H
  have h0 : 0 < (a 0 1 - a 0 2 - a 2 1 + a 2 2) := g_b4 _ H.1
  have h1 : (a 2 1 - a 2 2) ≤ 0 := g_b3 _ H.2.1
  have h2 : 0 ≤ (a 0 1 - a 0 2) := g_b6 _ H.2.2.1
  have h3 : (a 0 2 - a 2 2) ≤ 0 := g_b3 _ H.2.2.2.1
  have h4 : 0 ≤ (a 0 1 - a 2 1) := g_b6 _ H.2.2.2.2.1
  have h5 : 0 ≤ ((a 2 1 * a 0 2 - a 2 2 * a 0 1) + (a 2 2 * a 0 0 - a 2 0 * a 0 2) + (a 2 0 * a 0 1 - a 2 1 * a 0 0)) := g_b6 _ H.2.2.2.2.2.1
  have h6 : ((a 1 1 * a 2 2 - a 1 2 * a 2 1) + (a 2 1 * a 0 2 - a 2 2 * a 0 1) + (a 0 1 * a 1 2 - a 0 2 * a 1 1)) ≤ 0 := g_b3 _ H.2.2.2.2.2.2.1
  left
  have p0 : 0 ≤ (a 2 2 - a 2 1 : Int) := by omega
  have q0 : 0 ≤ (0 : Int) := by omega
  have r0 : (a 0 1 * a 2 2 - a 0 2 * a 2 1) ≤ 0 + (a 2 2 - a 2 1) * a 0 0 + (0) * a 1 0 + (a 0 1 - a 0 2) * a 2 0 := by grind
  have s0 : 0 + (0) * a 0 0 + (a 2 2 - a 0 2) * a 0 1 + (a 0 1 - a 2 1) * a 0 2 ≤ (a 0 1 * a 2 2 - a 0 2 * a 2 1) := by grind
  have p1 : 0 ≤ (0 : Int) := by omega
  have q1 : 0 ≤ (a 2 2 - a 0 2 : Int) := by omega
  have r1 : (a 0 1 * a 2 2 - a 0 2 * a 2 1) ≤ 0 + (a 2 2 - a 2 1) * a 0 1 + (0) * a 1 1 + (a 0 1 - a 0 2) * a 2 1 := by grind
  have s1 : 0 + (0) * a 1 0 + (a 2 2 - a 0 2) * a 1 1 + (a 0 1 - a 2 1) * a 1 2 ≤ (a 0 1 * a 2 2 - a 0 2 * a 2 1) := by grind
  have p2 : 0 ≤ (a 0 1 - a 0 2 : Int) := by omega
  have q2 : 0 ≤ (a 0 1 - a 2 1 : Int) := by omega
  have r2 : (a 0 1 * a 2 2 - a 0 2 * a 2 1) ≤ 0 + (a 2 2 - a 2 1) * a 0 2 + (0) * a 1 2 + (a 0 1 - a 0 2) * a 2 2 := by grind
  have s2 : 0 + (0) * a 2 0 + (a 2 2 - a 0 2) * a 2 1 + (a 0 1 - a 2 1) * a 2 2 ≤ (a 0 1 * a 2 2 - a 0 2 * a 2 1) := by grind
  have t : 0 < (a 2 2 - a 2 1) + (a 0 1 - a 0 2) := by grind
  exact ⟨t, fun m hm => match m, hm with | 0, _ => ⟨p0, q0, r0, s0⟩ | 1, _ => ⟨p1, q1, r1, s1⟩ | 2, _ => ⟨p2, q2, r2, s2⟩ | n + 3, h => absurd h (by omega)⟩
theorem g_k20 (a : Nat → Nat → Int) (H : ∀ q ∈ ([(26, 1), (8, 6), (2, 3), (18, 6), (15, 3), (29, 3), (31, 6)] : List (Nat × Nat)), q.2.testBit (g_sg (g_V a q.1)) = true) : gOk2 3 a 0 2 1 2 := by
  simp only [List.forall_mem_cons] at H
  have h0 : (a 0 1 - a 0 2 - a 2 1 + a 2 2) < 0 := g_b1 _ H.1
  have h1 : 0 ≤ (a 2 1 - a 2 2) := g_b6 _ H.2.1
  have h2 : (a 0 1 - a 0 2) ≤ 0 := g_b3 _ H.2.2.1
  have h3 : 0 ≤ (a 0 2 - a 2 2) := g_b6 _ H.2.2.2.1
  have h4 : (a 0 1 - a 2 1) ≤ 0 := g_b3 _ H.2.2.2.2.1
  have h5 : ((a 2 1 * a 0 2 - a 2 2 * a 0 1) + (a 2 2 * a 0 0 - a 2 0 * a 0 2) + (a 2 0 * a 0 1 - a 2 1 * a 0 0)) ≤ 0 := g_b3 _ H.2.2.2.2.2.1
  have h6 : 0 ≤ ((a 1 1 * a 2 2 - a 1 2 * a 2 1) + (a 2 1 * a 0 2 - a 2 2 * a 0 1) + (a 0 1 * a 1 2 - a 0 2 * a 1 1)) := g_b6 _ H.2.2.2.2.2.2.1
  right
  have p0 : 0 ≤ (-(a 2 2 - a 2 1) : Int) := by omega
  have q0 : 0 ≤ (-(0) : Int) := by omega
  have r0 : -((a 0 1 * a 2 2 - a 0 2 * a 2 1)) ≤ 0 + (-(a 2 2 - a 2 1)) * a 0 0 + (-(0)) * a 1 0 + (-(a 0 1 - a 0 2)) * a 2 0 := by grind
  have s0 : 0 + (-(0)) * a 0 0 + (-(a 2 2 - a 0 2)) * a 0 1 + (-(a 0 1 - a 2 1)) * a 0 2 ≤ -((a 0 1 * a 2 2 - a 0 2 * a 2 1)) := by grind
  have p1 : 0 ≤ (-(0) : Int) := by omega
  have q1 : 0 ≤ (-(a 2 2 - a 0 2) : Int) := by omega
  have r1 : -((a 0 1 * a 2 2 - a 0 2 * a 2 1)) ≤ 0 + (-(a 2 2 - a 2 1)) * a 0 1 + (-(0)) * a 1 1 + (-(a 0 1 - a 0 2)) * a 2 1 := by grind
  have s1 : 0 + (-(0)) * a 1 0 + (-(a 2 2 - a 0 2)) * a 1 1 + (-(a 0 1 - a 2 1)) * a 1 2 ≤ -((a 0 1 * a 2 2 - a 0 2 * a 2 1)) := by grind
  have p2 : 0 ≤ (-(a 0 1 - a 0 2) : Int) := by omega
  have q2 : 0 ≤ (-(a 0 1 - a 2 1) : Int) := by omega
  have r2 : -((a 0 1 * a 2 2 - a 0 2 * a 2 1)) ≤ 0 + (-(a 2 2 - a 2 1)) * a 0 2 + (-(0)) * a 1 2 + (-(a 0 1 - a 0 2)) * a 2 2 := by grind
  have s2 : 0 + (-(0)) * a 2 0 + (-(a 2 2 - a 0 2)) * a 2 1 + (-(a 0 1 - a 2 1)) * a 2 2 ≤ -((a 0 1 * a 2 2 - a 0 2 * a 2 1)) := by grind
  have t : (a 2 2 - a 2 1) + (a 0 1 - a 0 2) < 0 := by grind
  exact ⟨t, fun m hm => match m, hm with | 0, _ => ⟨p0, q0, r0, s0⟩ | 1, _ => ⟨p1, q1, r1, s1⟩ | 2, _ => ⟨p2, q2, r2, s2⟩ | n + 3, h => absurd h (by omega)⟩
theorem g_k21 (a : Nat → Nat → Int) (H : ∀ q ∈ ([(22, 4), (7, 3), (4, 6), (14, 3), (11, 6), (28, 3), (33, 6)] : List (Nat × Nat)), q.2.testBit (g_sg (g_V a q.1)) = true) : gOk2 3 a 1 2 0 1 := by
  simp only [List.forall_mem_cons] at H
  have h0 : 0 < (a 1 0 - a 1 1 - a 2 0 + a 2 1) := g_b4 _ H.1
  have h1 : (a 2 0 - a 2 1) ≤ 0 := g_b3 _ H.2.1
  have h2 : 0 ≤ (a 1 0 - a 1 1) := g_b6 _ H.2.2.1
  have h3 : (a 1 1 - a 2 1) ≤ 0 := g_b3 _ H.2.2.2.1
  have h4 : 0 ≤ (a 1 0 - a 2 0) := g_b6 _ H.2.2.2.2.1
  have h5 : ((a 1 1 * a 2 2 - a 1 2 * a 2 1) + (a 1 2 * a 2 0 - a 1 0 * a 2 2) + (a 1 0 * a 2 1 - a 1 1 * a 2 0)) ≤ 0 := g_b3 _ H.2.2.2.2.2.1
  have h6 : 0 ≤ ((a 1 0 * a 2 1 - a 1 1 * a 2 0) + (a 2 0 * a 0 1 - a 2 1 * a 0 0) + (a 0 0 * a 1 1 - a 0 1 * a 1 0)) := g_b6 _ H.2.2.2.2.2.2.1
  left
  have p0 : 0 ≤ (0 : Int) := by omega
  have q0 : 0 ≤ (a 2 1 - a 1 1 : Int) := by omega
  have r0 : (a 1 0 * a 2 1 - a 1 1 * a 2 0) ≤ 0 + (0) * a 0 0 + (a 2 1 - a 2 0) * a 1 0 + (a 1 0 - a 1 1) * a 2 0 := by grind
  have s0 : 0 + (a 2 1 - a 1 1) * a 0 0 + (a 1 0 - a 2 0) * a 0 1 + (0) * a 0 2 ≤ (a 1 0 * a 2 1 - a 1 1 * a 2 0) := by grind
  have p1 : 0 ≤ (a 2 1 - a 2 0 : Int) := by omega
  have q1 : 0 ≤ (a 1 0 - a 2 0 : Int) := by omega
  have r1 : (a 1 0 * a 2 1 - a 1 1 * a 2 0) ≤ 0 + (0) * a 0 1 + (a 2 1 - a 2 0) * a 1 1 + (a 1 0 - a 1 1) * a 2 1 := by grind
  have s1 : 0 + (a 2 1 - a 1 1) * a 1 0 + (a 1 0 - a 2 0) * a 1 1 + (0) * a 1 2 ≤ (a 1 0 * a 2 1 - a 1 1 * a 2 0) := by grind
  have p2 : 0 ≤ (a 1 0 - a 1 1 : Int) := by omega
  have q2 : 0 ≤ (0 : Int) := by omega
  have r2 : (a 1 0 * a 2 1 - a 1 1 * a 2 0) ≤ 0 + (0) * a 0 2 + (a 2 1 - a 2 0) * a 1 2 + (a 1 0 - a 1 1) * a 2 2 := by grind
  have s2 : 0 + (a 2 1 - a 1 1) * a 2 0 + (a 1 0 - a 2 0) * a 2 1 + (0) * a 2 2 ≤ (a 1 0 * a 2 1 - a 1 1 * a 2 0) := by grind
  have t : 0 < (a 2 1 - a 2 0) + (a 1 0 - a 1 1) := by grind
  exact ⟨t, fun m hm => match m, hm with | 0, _ => ⟨p0, q0, r0, s0⟩ | 1, _ => ⟨p1, q1, r1, s1⟩ | 2, _ => ⟨p2, q2, r2, s2⟩ | n + 3, h => absurd h (by omega)⟩
theorem g_k22 (a : Nat → Nat → Int) (H : ∀ q ∈ ([(22, 1), (7, 6), (4, 3), (14, 6), (11, 3), (28, 6), (33, 3)] : List (Nat × Nat)), q.2.testBit (g_sg (g_V a q.1)) = true) : gOk2 3 a 1 2 0 1 := by
  simp only [List.forall_mem_cons] at H
  have h0 : (a 1 0 - a 1 1 - a 2 0 + a 2 1) < 0 := g_b1 _ H.1
  have h1 : 0 ≤ (a 2 0 - a 2 1) := g_b6 _ H.2.1
  have h2 : (a 1 0 - a 1 1) ≤ 0 := g_b3 _ H.2.2.1
  have h3 : 0 ≤ (a 1 1 - a 2 1) := g_b6 _ H.2.2.2.1
  have h4 : (a 1 0 - a 2 0) ≤ 0 := g_b3 _ H.2.2.2.2.1
  have h5 : 0 ≤ ((a 1 1 * a 2 2 - a 1 2 * a 2 1) + (a 1 2 * a 2 0 - a 1 0 * a 2 2) + (a 1 0 * a 2 1 - a 1 1 * a 2 0)) := g_b6 _ H.2.2.2.2.2.1
  have h6 : ((a 1 0 * a 2 1 - a 1 1 * a 2 0) + (a 2 0 * a 0 1 - a 2 1 * a 0 0) + (a 0 0 * a 1 1 - a 0 1 * a 1 0)) ≤ 0 := g_b3 _ H.2.2.2.2.2.2.1
  right
  have p0 : 0 ≤ (-(0) : Int) := by omega
  have q0 : 0 ≤ (-(a 2 1 - a 1 1) : Int) := by omega
  have r0 : -((a 1 0 * a 2 1 - a 1 1 * a 2 0)) ≤ 0 + (-(0)) * a 0 0 + (-(a 2 1 - a 2 0)) * a 1 0 + (-(a 1 0 - a 1 1)) * a 2 0 := by grind
  have s0 : 0 + (-(a 2 1 - a 1 1)) * a 0 0 + (-(a 1 0 - a 2 0)) * a 0 1 + (-(0)) * a 0 2 ≤ -((a 1 0 * a 2 1 - a 1 1 * a 2 0)) := by grind
  have p1 : 0 ≤ (-(a 2 1 - a 2 0) : Int) := by omega
  have q1 : 0 ≤ (-(a 1 0 - a 2 0) : Int) := by omega
  have r1 : -((a 1 0 * a 2 1 - a 1 1 * a 2 0)) ≤ 0 + (-(0)) * a 0 1 + (-(a 2 1 - a 2 0)) * a 1 1 + (-(a 1 0 - a 1 1)) * a 2 1 := by grind
  have s1 : 0 + (-(a 2 1 - a 1 1)) * a 1 0 + (-(a 1 0 - a 2 0)) * a 1 1 + (-(0)) * a 1 2 ≤ -((a 1 0 * a 2 1 - a 1 1 * a 2 0)) := by grind
  have p2 : 0 ≤ (-(a 1 0 - a 1 1) : Int) := by omega
  have q2 : 0 ≤ (-(0) : Int) := by omega
  have r2 : -((a 1 0 * a 2 1 - a 1 1 * a 2 0)) ≤ 0 + (-(0)) * a 0 2 + (-(a 2 1 - a 2 0)) * a 1 2 + (-(a 1 0 - a 1 1)) * a 2 2 := by grind
  have s2 : 0 + (-(a 2 1 - a 1 1)) * a 2 0 + (-(a 1 0 - a 2 0)) * a 2 1 + (-(0)) * a 2 2 ≤ -((a 1 0 * a 2 1 - a 1 1 * a 2 0)) := by grind
  have t : (a 2 1 - a 2 0) + (a 1 0 - a 1 1) < 0 := by grind
  exact ⟨t, fun m hm => match m, hm with | 0, _ => ⟨p0, q0, r0, s0⟩ | 1, _ => ⟨p1, q1, r1, s1⟩ | 2, _ => ⟨p2, q2, r2, s2⟩ | n + 3, h => absurd h (by omega)⟩
theorem g_k23 (a : Nat → Nat → Int) (H : ∀ q ∈ ([(24, 4), (9, 3), (6, 6), (17, 3), (11, 6), (28, 6), (32, 3)] : List (Nat × Nat)), q.2.testBit (g_sg (g_V a q.1)) = true) : gOk2 3 a 1 2 0 2 := by
  simp only [List.forall_mem_cons] at H
  have h0 : 0 < (a 1 0 - a 1 2 - a 2 0 + a 2 2) := g_b4 _ H.1
  have h1 : (a 2 0 - a 2 2) ≤ 0 := g_b3 _ H.2.1
  have h2 : 0 ≤ (a 1 0 - a 1 2) := g_b6 _ H.2.2.1
  have h3 : (a 1 2 - a 2 2) ≤ 0 := g_b3 _ H.2.2.2.1
  have h4 : 0 ≤ (a 1 0 - a 2 0) := g_b6 _ H.2.2.2.2.1
  have h5 : 0 ≤ ((a 1 1 * a 2 2 - a 1 2 * a 2 1) + (a 1 2 * a 2 0 - a 1 0 * a 2 2) + (a 1 0 * a 2 1 - a 1 1 * a 2 0)) := g_b6 _ H.2.2.2.2.2.1
  have h6 : ((a 1 2 * a 2 0 - a 1 0 * a 2 2) + (a 2 2 * a 0 0 - a 2 0 * a 0 2) + (a 0 2 * a 1 0 - a 0 0 * a 1 2)) ≤ 0 := g_b3 _ H.2.2.2.2.2.2.1
  left
  have p0 : 0 ≤ (0 : Int) := by omega
  have q0 : 0 ≤ (a 2 2 - a 1 2 : Int) := by omega
  have r0 : (a 1 0 * a 2 2 - a 1 2 * a 2 0) ≤ 0 + (0) * a 0 0 + (a 2 2 - a 2 0) * a 1 0 + (a 1 0 - a 1 2) * a 2 0 := by grind
  have s0 : 0 + (a 2 2 - a 1 2) * a 0 0 + (0) * a 0 1 + (a 1 0 - a 2 0) * a 0 2 ≤ (a 1 0 * a 2 2 - a 1 2 * a 2 0) := by grind
  have p1 : 0 ≤ (a 2 2 - a 2 0 : Int) := by omega
  have q1 : 0 ≤ (0 : Int) := by omega
  have r1 : (a 1 0 * a 2 2 - a 1 2 * a 2 0) ≤ 0 + (0) * a 0 1 + (a 2 2 - a 2 0) * a 1 1 + (a 1 0 - a 1 2) * a 2 1 := by grind
  have s1 : 0 + (a 2 2 - a 1 2) * a 1 0 + (0) * a 1 1 + (a 1 0 - a 2 0) * a 1 2 ≤ (a 1 0 * a 2 2 - a 1 2 * a 2 0) := by grind
  have p2 : 0 ≤ (a 1 0 - a 1 2 : Int) := by omega
  have q2 : 0 ≤ (a 1 0 - a 2 0 : Int) := by omega
  have r2 : (a 1 0 * a 2 2 - a 1 2 * a 2 0) ≤ 0 + (0) * a 0 2 + (a 2 2 - a 2 0) * a 1 2 + (a 1 0 - a 1 2) * a 2 2 := by grind
  have s2 : 0 + (a 2 2 - a 1 2) * a 2 0 + (0) * a 2 1 + (a 1 0 - a 2 0) * a 2 2 ≤ (a 1 0 * a 2 2 - a 1 2 * a 2 0) := by grind
  have t : 0 < (a 2 2 - a 2 0) + (a 1 0 - a 1 2) := by grind
  exact ⟨t, fun m hm => match m, hm with | 0, _ => ⟨p0, q0, r0, s0⟩ | 1, _ => ⟨p1, q1, r1, s1⟩ | 2, _ => ⟨p2, q2, r2, s2⟩ | n + 3, h => absurd h (by omega)⟩
theorem g_k24 (a : Nat → Nat → Int) (H : ∀ q ∈ ([(24, 1), (9, 6), (6, 3), (17, 6), (11, 3), (28, 3), (32, 6)] : List (Nat × Nat)), q.2.testBit (g_sg (g_V a q.1)) = true) : gOk2 3 a 1 2 0 2 := by
  simp only [List.forall_mem_cons] at H
  have h0 : (a 1 0 - a 1 2 - a 2 0 + a 2 2) < 0 := g_b1 _ H.1
  have h1 : 0 ≤ (a 2 0 - a 2 2) := g_b6 _ H.2.1
  have h2 : (a 1 0 - a 1 2) ≤ 0 := g_b3 _ H.2.2.1
  have h3 : 0 ≤ (a 1 2 - a 2 2) := g_b6 _ H.2.2.2.1
  have h4 : (a 1 0 - a 2 0) ≤ 0 := g_b3 _ H.2.2.2.2.1
  have h5 : ((a 1 1 * a 2 2 - a 1 2 * a 2 1) + (a 1 2 * a 2 0 - a 1 0 * a 2 2) + (a 1 0 * a 2 1 - a 1 1 * a 2 0)) ≤ 0 := g_b3 _ H.2.2.2.2.2.1
  have h6 : 0 ≤ ((a 1 2 * a 2 0 - a 1 0 * a 2 2) + (a 2 2 * a 0 0 - a 2 0 * a 0 2) + (a 0 2 * a 1 0 - a 0 0 * a 1 2)) := g_b6 _ H.2.2.2.2.2.2.1
  right
  have p0 : 0 ≤ (-(0) : Int) := by omega
  have q0 : 0 ≤ (-(a 2 2 - a 1 2) : Int) := by omega
  have r0 : -((a 1 0 * a 2 2 - a 1 2 * a 2 0)) ≤ 0 + (-(0)) * a 0 0 + (-(a 2 2 - a 2 0)) * a 1 0 + (-(a 1 0 - a 1 2)) * a 2 0 := by grind
  have s0 : 0 + (-(a 2 2 - a 1 2)) * a 0 0 + (-(0)) * a 0 1 + (-(a 1 0 - a 2 0)) * a 0 2 ≤ -((a 1 0 * a 2 2 - a 1 2 * a 2 0)) := by grind
  have p1 : 0 ≤ (-(a 2 2 - a 2 0) : Int) := by omega
  have q1 : 0 ≤ (-(0) : Int) := by omega
  have r1 : -((a 1 0 * a 2 2 - a 1 2 * a 2 0)) ≤ 0 + (-(0)) * a 0 1 + (-(a 2 2 - a 2 0)) * a 1 1 + (-(a 1 0 - a 1 2)) * a 2 1 := by grind
  have s1 : 0 + (-(a 2 2 - a 1 2)) * a 1 0 + (-(0)) * a 1 1 + (-(a 1 0 - a 2 0)) * a 1 2 ≤ -((a 1 0 * a 2 2 - a 1 2 * a 2 0)) := by grind
  have p2 : 0 ≤ (-(a 1 0 - a 1 2) : Int) := by omega
  have q2 : 0 ≤ (-(a 1 0 - a 2 0) : Int) := by omega
  have r2 : -((a 1 0 * a 2 2 - a 1 2 * a 2 0)) ≤ 0 + (-(0)) * a 0 2 + (-(a 2 2 - a 2 0)) * a 1 2 + (-(a 1 0 - a 1 2)) * a 2 2 := by grind
  have s2 : 0 + (-(a 2 2 - a 1 2)) * a 2 0 + (-(0)) * a 2 1 + (-(a 1 0 - a 2 0)) * a 2 2 ≤ -((a 1 0 * a 2 2 - a 1 2 * a 2 0)) := by grind
  have t : (a 2 2 - a 2 0) + (a 1 0 - a 1 2) < 0 := by grind
  exact ⟨t, fun m hm => match m, hm with | 0, _ => ⟨p0, q0, r0, s0⟩ | 1, _ => ⟨p1, q1, r1, s1⟩ | 2, _ => ⟨p2, q2, r2, s2⟩ | n + 3, h => absurd h (by omega)⟩
theorem g_k25 (a : Nat → Nat → Int) (H : ∀ q ∈ ([(23, 4), (8, 3), (5, 6), (17, 3), (14, 6), (28, 3), (31, 6)] : List (Nat × Nat)), q.2.testBit (g_sg (g_V a q.1)) = true) : gOk2 3 a 1 2 1 2 := by
  simp only [List.forall_mem_cons] at H
  have h0 : 0 < (a 1 1 - a 1 2 - a 2 1 + a 2 2) := g_b4 _ H.1
  have h1 : (a 2 1 - a 2 2) ≤ 0 := g_b3 _ H.2.1
  have h2 : 0 ≤ (a 1 1 - a 1 2) := g_b6 _ H.2.2.1
  have h3 : (a 1 2 - a 2 2) ≤ 0 := g_b3 _ H.2.2.2.1
  have h4 : 0 ≤ (a 1 1 - a 2 1) := g_b6 _ H.2.2.2.2.1
  have h5 : ((a 1 1 * a 2 2 - a 1 2 * a 2 1) + (a 1 2 * a 2 0 - a 1 0 * a 2 2) + (a 1 0 * a 2 1 - a 1 1 * a 2 0)) ≤ 0 := g_b3 _ H.2.2.2.2.2.1
  have h6 : 0 ≤ ((a 1 1 * a 2 2 - a 1 2 * a 2 1) + (a 2 1 * a 0 2 - a 2 2 * a 0 1) + (a 0 1 * a 1 2 - a 0 2 * a 1 1)) := g_b6 _ H.2.2.2.2.2.2.1
  left
  have p0 : 0 ≤ (0 : Int) := by omega
  have q0 : 0 ≤ (0 : Int) := by omega
  have r0 : (a 1 1 * a 2 2 - a 1 2 * a 2 1) ≤ 0 + (0) * a 0 0 + (a 2 2 - a 2 1) * a 1 0 + (a 1 1 - a 1 2) * a 2 0 := by grind
  have s0 : 0 + (0) * a 0 0 + (a 2 2 - a 1 2) * a 0 1 + (a 1 1 - a 2 1) * a 0 2 ≤ (a 1 1 * a 2 2 - a 1 2 * a 2 1) := by grind
  have p1 : 0 ≤ (a 2 2 - a 2 1 : Int) := by omega
  have q1 : 0 ≤ (a 2 2 - a 1 2 : Int) := by omega
  have r1 : (a 1 1 * a 2 2 - a 1 2 * a 2 1) ≤ 0 + (0) * a 0 1 + (a 2 2 - a 2 1) * a 1 1 + (a 1 1 - a 1 2) * a 2 1 := by grind
  have s1 : 0 + (0) * a 1 0 + (a 2 2 - a 1 2) * a 1 1 + (a 1 1 - a 2 1) * a 1 2 ≤ (a 1 1 * a 2 2 - a 1 2 * a 2 1) := by grind
  have p2 : 0 ≤ (a 1 1 - a 1 2 : Int) := by omega
  have q2 : 0 ≤ (a 1 1 - a 2 1 : Int) := by omega
  have r2 : (a 1 1 * a 2 2 - a 1 2 * a 2 1) ≤ 0 + (0) * a 0 2 + (a 2 2 - a 2 1) * a 1 2 + (a 1 1 - a 1 2) * a 2 2 := by grind
  have s2 : 0 + (0) * a 2 0 + (a 2 2 - a 1 2) * a 2 1 + (a 1 1 - a 2 1) * a 2 2 ≤ (a 1 1 * a 2 2 - a 1 2 * a 2 1) := by grind
  have t : 0 < (a 2 2 - a 2 1) + (a 1 1 - a 1 2) := by grind
  exact ⟨t, fun m hm => match m, hm with | 0, _ => ⟨p0, q0, r0, s0⟩ | 1, _ => ⟨p1, q1, r1, s1⟩ | 2, _ => ⟨p2, q2, r2, s2⟩ | n + 3, h => absurd h (by omega)⟩
theorem g_k26 (a : Nat → Nat → Int) (H : ∀ q ∈ ([(23, 1), (8, 6), (5, 3), (17, 6), (14, 3), (28, 6), (31, 3)] : List (Nat × Nat)), q.2.testBit (g_sg (g_V a q.1)) = true) : gOk2 3 a 1 2 1 2 := by
  simp only [List.forall_mem_cons] at H
  have h0 : (a 1 1 - a 1 2 - a 2 1 + a 2 2) < 0 := g_b1 _ H.1
  have h1 : 0 ≤ (a 2 1 - a 2 2) := g_b6 _ H.2.1
  have h2 : (a 1 1 - a 1 2) ≤ 0 := g_b3 _ H.2.2.1
  have h3 : 0 ≤ (a 1 2 - a 2 2) := g_b6 _ H.2.2.2.1
  have h4 : (a 1 1 - a 2 1) ≤ 0 := g_b3 _ H.2.2.2.2.1
  have h5 : 0 ≤ ((a 1 1 * a 2 2 - a 1 2 * a 2 1) + (a 1 2 * a 2 0 - a 1 0 * a 2 2) + (a 1 0 * a 2 1 - a 1 1 * a 2 0)) := g_b6 _ H.2.2.2.2.2.1
  have h6 : ((a 1 1 * a 2 2 - a 1 2 * a 2 1) + (a 2 1 * a 0 2 - a 2 2 * a 0 1) + (a 0 1 * a 1 2 - a 0 2 * a 1 1)) ≤ 0 := g_b3 _ H.2.2.2.2.2.2.1
  right
  have p0 : 0 ≤ (-(0) : Int) := by omega
  have q0 : 0 ≤ (-(0) : Int) := by omega
  have r0 : -((a 1 1 * a 2 2 - a 1 2 * a 2 1)) ≤ 0 + (-(0)) * a 0 0 + (-(a 2 2 - a 2 1)) * a 1 0 + (-(a 1 1 - a 1 2)) * a 2 0 := by grind
  have s0 : 0 + (-(0)) * a 0 0 + (-(a 2 2 - a 1 2)) * a 0 1 + (-(a 1 1 - a 2 1)) * a 0 2 ≤ -((a 1 1 * a 2 2 - a 1 2 * a 2 1)) := by grind
  have p1 : 0 ≤ (-(a 2 2 - a 2 1) : Int) := by omega
  have q1 : 0 ≤ (-(a 2 2 - a 1 2) : Int) := by omega
  have r1 : -((a 1 1 * a 2 2 - a 1 2 * a 2 1)) ≤ 0 + (-(0)) * a 0 1 + (-(a 2 2 - a 2 1)) * a 1 1 + (-(a 1 1 - a 1 2)) * a 2 1 := by grind
  have s1 : 0 + (-(0)) * a 1 0 + (-(a 2 2 - a 1 2)) * a 1 1 + (-(a 1 1 - a 2 1)) * a 1 2 ≤ -((a 1 1 * a 2 2 - a 1 2 * a 2 1)) := by grind
  have p2 : 0 ≤ (-(a 1 1 - a 1 2) : Int) := by omega
  have q2 : 0 ≤ (-(a 1 1 - a 2 1) : Int) := by omega
  have r2 : -((a 1 1 * a 2 2 - a 1 2 * a 2 1)) ≤ 0 + (-(0)) * a 0 2 + (-(a 2 2 - a 2 1)) * a 1 2 + (-(a 1 1 - a 1 2)) * a 2 2 := by grind
  have s2 : 0 + (-(0)) * a 2 0 + (-(a 2 2 - a 1 2)) * a 2 1 + (-(a 1 1 - a 2 1)) * a 2 2 ≤ -((a 1 1 * a 2 2 - a 1 2 * a 2 1)) := by grind
  have t : (a 2 2 - a 2 1) + (a 1 1 - a 1 2) < 0 := by grind
  exact ⟨t, fun m hm => match m, hm with | 0, _ => ⟨p0, q0, r0, s0⟩ | 1, _ => ⟨p1, q1, r1, s1⟩ | 2, _ => ⟨p2, q2, r2, s2⟩ | n + 3, h => absurd h (by omega)⟩
theorem g_k27 (a : Nat → Nat → Int) (H : ∀ q ∈ ([(0, 4), (28, 6), (29, 6), (30, 6), (31, 6), (32, 6), (33, 6)] : List (Nat × Nat)), q.2.testBit (g_sg (g_V a q.1)) = true) : gOk3 a := by
  simp only [List.forall_mem_cons] at H
  have h0 : 0 < (((a 1 1 * a 2 2 - a 1 2 * a 2 1) + (a 1 2 * a 2 0 - a 1 0 * a 2 2) + (a 1 0 * a 2 1 - a 1 1 * a 2 0)) + ((a 2 1 * a 0 2 - a 2 2 * a 0 1) + (a 2 2 * a 0 0 - a 2 0 * a 0 2) + (a 2 0 * a 0 1 - a 2 1 * a 0 0)) + ((a 0 1 * a 1 2 - a 0 2 * a 1 1) + (a 0 2 * a 1 0 - a 0 0 * a 1 2) + (a 0 0 * a 1 1 - a 0 1 * a 1 0))) := g_b4 _ H.1
  have h1 : 0 ≤ ((a 1 1 * a 2 2 - a 1 2 * a 2 1) + (a 1 2 * a 2 0 - a 1 0 * a 2 2) + (a 1 0 * a 2 1 - a 1 1 * a 2 0)) := g_b6 _ H.2.1
  have h2 : 0 ≤ ((a 2 1 * a 0 2 - a 2 2 * a 0 1) + (a 2 2 * a 0 0 - a 2 0 * a 0 2) + (a 2 0 * a 0 1 - a 2 1 * a 0 0)) := g_b6 _ H.2.2.1
  have h3 : 0 ≤ ((a 0 1 * a 1 2 - a 0 2 * a 1 1) + (a 0 2 * a 1 0 - a 0 0 * a 1 2) + (a 0 0 * a 1 1 - a 0 1 * a 1 0)) := g_b6 _ H.2.2.2.1
  have h4 : 0 ≤ ((a 1 1 * a 2 2 - a 1 2 * a 2 1) + (a 2 1 * a 0 2 - a 2 2 * a 0 1) + (a 0 1 * a 1 2 - a 0 2 * a 1 1)) := g_b6 _ H.2.2.2.2.1
  have h5 : 0 ≤ ((a 1 2 * a 2 0 - a 1 0 * a 2 2) + (a 2 2 * a 0 0 - a 2 0 * a 0 2) + (a 0 2 * a 1 0 - a 0 0 * a 1 2)) := g_b6 _ H.2.2.2.2.2.1
  have h6 : 0 ≤ ((a 1 0 * a 2 1 - a 1 1 * a 2 0) + (a 2 0 * a 0 1 - a 2 1 * a 0 0) + (a 0 0 * a 1 1 - a 0 1 * a 1 0)) := g_b6 _ H.2.2.2.2.2.2.1
  left
  have p0 : 0 ≤ ((a 1 1 * a 2 2 - a 1 2 * a 2 1) + (a 1 2 * a 2 0 - a 1 0 * a 2 2) + (a 1 0 * a 2 1 - a 1 1 * a 2 0) : Int) := by grind
  have q0 : 0 ≤ ((a 1 1 * a 2 2 - a 1 2 * a 2 1) + (a 2 1 * a 0 2 - a 2 2 * a 0 1) + (a 0 1 * a 1 2 - a 0 2 * a 1 1) : Int) := by grind
  have r0 : (a 0 0 * (a 1 1 * a 2 2 - a 1 2 * a 2 1) + a 0 1 * (a 1 2 * a 2 0 - a 1 0 * a 2 2) + a 0 2 * (a 1 0 * a 2 1 - a 1 1 * a 2 0)) ≤ 0 + ((a 1 1 * a 2 2 - a 1 2 * a 2 1) + (a 1 2 * a 2 0 - a 1 0 * a 2 2) + (a 1 0 * a 2 1 - a 1 1 * a 2 0)) * a 0 0 + ((a 2 1 * a 0 2 - a 2 2 * a 0 1) + (a 2 2 * a 0 0 - a 2 0 * a 0 2) + (a 2 0 * a 0 1 - a 2 1 * a 0 0)) * a 1 0 + ((a 0 1 * a 1 2 - a 0 2 * a 1 1) + (a 0 2 * a 1 0 - a 0 0 * a 1 2) + (a 0 0 * a 1 1 - a 0 1 * a 1 0)) * a 2 0 := by grind
  have s0 : 0 + ((a 1 1 * a 2 2 - a 1 2 * a 2 1) + (a 2 1 * a 0 2 - a 2 2 * a 0 1) + (a 0 1 * a 1 2 - a 0 2 * a 1 1)) * a 0 0 + ((a 1 2 * a 2 0 - a 1 0 * a 2 2) + (a 2 2 * a 0 0 - a 2 0 * a 0 2) + (a 0 2 * a 1 0 - a 0 0 * a 1 2)) * a 0 1 + ((a 1 0 * a 2 1 - a 1 1 * a 2 0) + (a 2 0 * a 0 1 - a 2 1 * a 0 0) + (a 0 0 * a 1 1 - a 0 1 * a 1 0)) * a 0 2 ≤ (a 0 0 * (a 1 1 * a 2 2 - a 1 2 * a 2 1) + a 0 1 * (a 1 2 * a 2 0 - a 1 0 * a 2 2) + a 0 2 * (a 1 0 * a 2 1 - a 1 1 * a 2 0)) := by grind
  have p1 : 0 ≤ ((a 2 1 * a 0 2 - a 2 2 * a 0 1) + (a 2 2 * a 0 0 - a 2 0 * a 0 2) + (a 2 0 * a 0 1 - a 2 1 * a 0 0) : Int) := by grind
  have q1 : 0 ≤ ((a 1 2 * a 2 0 - a 1 0 * a 2 2) + (a 2 2 * a 0 0 - a 2 0 * a 0 2) + (a 0 2 * a 1 0 - a 0 0 * a 1 2) : Int) := by grind
  have r1 : (a 0 0 * (a 1 1 * a 2 2 - a 1 2 * a 2 1) + a 0 1 * (a 1 2 * a 2 0 - a 1 0 * a 2 2) + a 0 2 * (a 1 0 * a 2 1 - a 1 1 * a 2 0)) ≤ 0 + ((a 1 1 * a 2 2 - a 1 2 * a 2 1) + (a 1 2 * a 2 0 - a 1 0 * a 2 2) + (a 1 0 * a 2 1 - a 1 1 * a 2 0)) * a 0 1 + ((a 2 1 * a 0 2 - a 2 2 * a 0 1) + (a 2 2 * a 0 0 - a 2 0 * a 0 2) + (a 2 0 * a 0 1 - a 2 1 * a 0 0)) * a 1 1 + ((a 0 1 * a 1 2 - a 0 2 * a 1 1) + (a 0 2 * a 1 0 - a 0 0 * a 1 2) + (a 0 0 * a 1 1 - a 0 1 * a 1 0)) * a 2 1 := by grind
  have s1 : 0 + ((a 1 1 * a 2 2 - a 1 2 * a 2 1) + (a 2 1 * a 0 2 - a 2 2 * a 0 1) + (a 0 1 * a 1 2 - a 0 2 * a 1 1)) * a 1 0 + ((a 1 2 * a 2 0 - a 1 0 * a 2 2) + (a 2 2 * a 0 0 - a 2 0 * a 0 2) + (a 0 2 * a 1 0 - a 0 0 * a 1 2)) * a 1 1 + ((a 1 0 * a 2 1 - a 1 1 * a 2 0) + (a 2 0 * a 0 1 - a 2 1 * a 0 0) + (a 0 0 * a 1 1 - a 0 1 * a 1 0)) * a 1 2 ≤ (a 0 0 * (a 1 1 * a 2 2 - a 1 2 * a 2 1) + a 0 1 * (a 1 2 * a 2 0 - a 1 0 * a 2 2) + a 0 2 * (a 1 0 * a 2 1 - a 1 1 * a 2 0)) := by grind
  have p2 : 0 ≤ ((a 0 1 * a 1 2 - a 0 2 * a 1 1) + (a 0 2 * a 1 0 - a 0 0 * a 1 2) + (a 0 0 * a 1 1 - a 0 1 * a 1 0) : Int) := by grind
  have q2 : 0 ≤ ((a 1 0 * a 2 1 - a 1 1 * a 2 0) + (a 2 0 * a 0 1 - a 2 1 * a 0 0) + (a 0 0 * a 1 1 - a 0 1 * a 1 0) : Int) := by grind
  have r2 : (a 0 0 * (a 1 1 * a 2 2 - a 1 2 * a 2 1) + a 0 1 * (a 1 2 * a 2 0 - a 1 0 * a 2 2) + a 0 2 * (a 1 0 * a 2 1 - a 1 1 * a 2 0)) ≤ 0 + ((a 1 1 * a 2 2 - a 1 2 * a 2 1) + (a 1 2 * a 2 0 - a 1 0 * a 2 2) + (a 1 0 * a 2 1 - a 1 1 * a 2 0)) * a 0 2 + ((a 2 1 * a 0 2 - a 2 2 * a 0 1) + (a 2 2 * a 0 0 - a 2 0 * a 0 2) + (a 2 0 * a 0 1 - a 2 1 * a 0 0)) * a 1 2 + ((a 0 1 * a 1 2 - a 0 2 * a 1 1) + (a 0 2 * a 1 0 - a 0 0 * a 1 2) + (a 0 0 * a 1 1 - a 0 1 * a 1 0)) * a 2 2 := by grind
  have s2 : 0 + ((a 1 1 * a 2 2 - a 1 2 * a 2 1) + (a 2 1 * a 0 2 - a 2 2 * a 0 1) + (a 0 1 * a 1 2 - a 0 2 * a 1 1)) * a 2 0 + ((a 1 2 * a 2 0 - a 1 0 * a 2 2) + (a 2 2 * a 0 0 - a 2 0 * a 0 2) + (a 0 2 * a 1 0 - a 0 0 * a 1 2)) * a 2 1 + ((a 1 0 * a 2 1 - a 1 1 * a 2 0) + (a 2 0 * a 0 1 - a 2 1 * a 0 0) + (a 0 0 * a 1 1 - a 0 1 * a 1 0)) * a 2 2 ≤ (a 0 0 * (a 1 1 * a 2 2 - a 1 2 * a 2 1) + a 0 1 * (a 1 2 * a 2 0 - a 1 0 * a 2 2) + a 0 2 * (a 1 0 * a 2 1 - a 1 1 * a 2 0)) := by grind
  have t : 0 < ((a 1 1 * a 2 2 - a 1 2 * a 2 1) + (a 1 2 * a 2 0 - a 1 0 * a 2 2) + (a 1 0 * a 2 1 - a 1 1 * a 2 0)) + ((a 2 1 * a 0 2 - a 2 2 * a 0 1) + (a 2 2 * a 0 0 - a 2 0 * a 0 2) + (a 2 0 * a 0 1 - a 2 1 * a 0 0)) + ((a 0 1 * a 1 2 - a 0 2 * a 1 1) + (a 0 2 * a 1 0 - a 0 0 * a 1 2) + (a 0 0 * a 1 1 - a 0 1 * a 1 0)) := by grind
  exact ⟨t, fun m hm => match m, hm with | 0, _ => ⟨p0, q0, r0, s0⟩ | 1, _ => ⟨p1, q1, r1, s1⟩ | 2, _ => ⟨p2, q2, r2, s2⟩ | n + 3, h => absurd h (by omega)⟩
theorem g_k28 (a : Nat → Nat → Int) (H : ∀ q ∈ ([(0, 1), (28, 3), (29, 3), (30, 3), (31, 3), (32, 3), (33, 3)] : List (Nat × Nat)), q.2.testBit (g_sg (g_V a q.1)) = true) : gOk3 a := by
  simp only [List.forall_mem_cons] at H
  have h0 : (((a 1 1 * a 2 2 - a 1 2 * a 2 1) + (a 1 2 * a 2 0 - a 1 0 * a 2 2) + (a 1 0 * a 2 1 - a 1 1 * a 2 0)) + ((a 2 1 * a 0 2 - a 2 2 * a 0 1) + (a 2 2 * a 0 0 - a 2 0 * a 0 2) + (a 2 0 * a 0 1 - a 2 1 * a 0 0)) + ((a 0 1 * a 1 2 - a 0 2 * a 1 1) + (a 0 2 * a 1 0 - a 0 0 * a 1 2) + (a 0 0 * a 1 1 - a 0 1 * a 1 0))) < 0 := g_b1 _ H.1
  have h1 : ((a 1 1 * a 2 2 - a 1 2 * a 2 1) + (a 1 2 * a 2 0 - a 1 0 * a 2 2) + (a 1 0 * a 2 1 - a 1 1 * a 2 0)) ≤ 0 := g_b3 _ H.2.1
  have h2 : ((a 2 1 * a 0 2 - a 2 2 * a 0 1) + (a 2 2 * a 0 0 - a 2 0 * a 0 2) + (a 2 0 * a 0 1 - a 2 1 * a 0 0)) ≤ 0 := g_b3 _ H.2.2.1
  have h3 : ((a 0 1 * a 1 2 - a 0 2 * a 1 1) + (a 0 2 * a 1 0 - a 0 0 * a 1 2) + (a 0 0 * a 1 1 - a 0 1 * a 1 0)) ≤ 0 := g_b3 _ H.2.2.2.1
  have h4 : ((a 1 1 * a 2 2 - a 1 2 * a 2 1) + (a 2 1 * a 0 2 - a 2 2 * a 0 1) + (a 0 1 * a 1 2 - a 0 2 * a 1 1)) ≤ 0 := g_b3 _ H.2.2.2.2.1
  have h5 : ((a 1 2 * a 2 0 - a 1 0 * a 2 2) + (a 2 2 * a 0 0 - a 2 0 * a 0 2) + (a 0 2 * a 1 0 - a 0 0 * a 1 2)) ≤ 0 := g_b3 _ H.2.2.2.2.2.1
  have h6 : ((a 1 0 * a 2 1 - a 1 1 * a 2 0) + (a 2 0 * a 0 1 - a 2 1 * a 0 0) + (a 0 0 * a 1 1 - a 0 1 * a 1 0)) ≤ 0 := g_b3 _ H.2.2.2.2.2.2.1
  right
  have p0 : 0 ≤ (-((a 1 1 * a 2 2 - a 1 2 * a 2 1) + (a 1 2 * a 2 0 - a 1 0 * a 2 2) + (a 1 0 * a 2 1 - a 1 1 * a 2 0)) : Int) := by grind
  have q0 : 0 ≤ (-((a 1 1 * a 2 2 - a 1 2 * a 2 1) + (a 2 1 * a 0 2 - a 2 2 * a 0 1) + (a 0 1 * a 1 2 - a 0 2 * a 1 1)) : Int) := by grind
  have r0 : -((a 0 0 * (a 1 1 * a 2 2 - a 1 2 * a 2 1) + a 0 1 * (a 1 2 * a 2 0 - a 1 0 * a 2 2) + a 0 2 * (a 1 0 * a 2 1 - a 1 1 * a 2 0))) ≤ 0 + (-((a 1 1 * a 2 2 - a 1 2 * a 2 1) + (a 1 2 * a 2 0 - a 1 0 * a 2 2) + (a 1 0 * a 2 1 - a 1 1 * a 2 0))) * a 0 0 + (-((a 2 1 * a 0 2 - a 2 2 * a 0 1) + (a 2 2 * a 0 0 - a 2 0 * a 0 2) + (a 2 0 * a 0 1 - a 2 1 * a 0 0))) * a 1 0 + (-((a 0 1 * a 1 2 - a 0 2 * a 1 1) + (a 0 2 * a 1 0 - a 0 0 * a 1 2) + (a 0 0 * a 1 1 - a 0 1 * a 1 0))) * a 2 0 := by grind
  have s0 : 0 + (-((a 1 1 * a 2 2 - a 1 2 * a 2 1) + (a 2 1 * a 0 2 - a 2 2 * a 0 1) + (a 0 1 * a 1 2 - a 0 2 * a 1 1))) * a 0 0 + (-((a 1 2 * a 2 0 - a 1 0 * a 2 2) + (a 2 2 * a 0 0 - a 2 0 * a 0 2) + (a 0 2 * a 1 0 - a 0 0 * a 1 2))) * a 0 1 + (-((a 1 0 * a 2 1 - a 1 1 * a 2 0) + (a 2 0 * a 0 1 - a 2 1 * a 0 0) + (a 0 0 * a 1 1 - a 0 1 * a 1 0))) * a 0 2 ≤ -((a 0 0 * (a 1 1 * a 2 2 - a 1 2 * a 2 1) + a 0 1 * (a 1 2 * a 2 0 - a 1 0 * a 2 2) + a 0 2 * (a 1 0 * a 2 1 - a 1 1 * a 2 0))) := by grind
  have p1 : 0 ≤ (-((a 2 1 * a 0 2 - a 2 2 * a 0 1) + (a 2 2 * a 0 0 - a 2 0 * a 0 2) + (a 2 0 * a 0 1 - a 2 1 * a 0 0)) : Int) := by grind
  have q1 : 0 ≤ (-((a 1 2 * a 2 0 - a 1 0 * a 2 2) + (a 2 2 * a 0 0 - a 2 0 * a 0 2) + (a 0 2 * a 1 0 - a 0 0 * a 1 2)) : Int) := by grind
  have r1 : -((a 0 0 * (a 1 1 * a 2 2 - a 1 2 * a 2 1) + a 0 1 * (a 1 2 * a 2 0 - a 1 0 * a 2 2) + a 0 2 * (a 1 0 * a 2 1 - a 1 1 * a 2 0))) ≤ 0 + (-((a 1 1 * a 2 2 - a 1 2 * a 2 1) + (a 1 2 * a 2 0 - a 1 0 * a 2 2) + (a 1 0 * a 2 1 - a 1 1 * a 2 0))) * a 0 1 + (-((a 2 1 * a 0 2 - a 2 2 * a 0 1) + (a 2 2 * a 0 0 - a 2 0 * a 0 2) + (a 2 0 * a 0 1 - a 2 1 * a 0 0))) * a 1 1 + (-((a 0 1 * a 1 2 - a 0 2 * a 1 1) + (a 0 2 * a 1 0 - a 0 0 * a 1 2) + (a 0 0 * a 1 1 - a 0 1 * a 1 0))) * a 2 1 := by grind
  have s1 : 0 + (-((a 1 1 * a 2 2 - a 1 2 * a 2 1) + (a 2 1 * a 0 2 - a 2 2 * a 0 1) + (a 0 1 * a 1 2 - a 0 2 * a 1 1))) * a 1 0 + (-((a 1 2 * a 2 0 - a 1 0 * a 2 2) + (a 2 2 * a 0 0 - a 2 0 * a 0 2) + (a 0 2 * a 1 0 - a 0 0 * a 1 2))) * a 1 1 + (-((a 1 0 * a 2 1 - a 1 1 * a 2 0) + (a 2 0 * a 0 1 - a 2 1 * a 0 0) + (a 0 0 * a 1 1 - a 0 1 * a 1 0))) * a 1 2 ≤ -((a 0 0 * (a 1 1 * a 2 2 - a 1 2 * a 2 1) + a 0 1 * (a 1 2 * a 2 0 - a 1 0 * a 2 2) + a 0 2 * (a 1 0 * a 2 1 - a 1 1 * a 2 0))) := by grind
  have p2 : 0 ≤ (-((a 0 1 * a 1 2 - a 0 2 * a 1 1) + (a 0 2 * a 1 0 - a 0 0 * a 1 2) + (a 0 0 * a 1 1 - a 0 1 * a 1 0)) : Int) := by grind
  have q2 : 0 ≤ (-((a 1 0 * a 2 1 - a 1 1 * a 2 0) + (a 2 0 * a 0 1 - a 2 1 * a 0 0) + (a 0 0 * a 1 1 - a 0 1 * a 1 0)) : Int) := by grind
  have r2 : -((a 0 0 * (a 1 1 * a 2 2 - a 1 2 * a 2 1) + a 0 1 * (a 1 2 * a 2 0 - a 1 0 * a 2 2) + a 0 2 * (a 1 0 * a 2 1 - a 1 1 * a 2 0))) ≤ 0 + (-((a 1 1 * a 2 2 - a 1 2 * a 2 1) + (a 1 2 * a 2 0 - a 1 0 * a 2 2) + (a 1 0 * a 2 1 - a 1 1 * a 2 0))) * a 0 2 + (-((a 2 1 * a 0 2 - a 2 2 * a 0 1) + (a 2 2 * a 0 0 - a 2 0 * a 0 2) + (a 2 0 * a 0 1 - a 2 1 * a 0 0))) * a 1 2 + (-((a 0 1 * a 1 2 - a 0 2 * a 1 1) + (a 0 2 * a 1 0 - a 0 0 * a 1 2) + (a 0 0 * a 1 1 - a 0 1 * a 1 0))) * a 2 2 := by grind
  have s2 : 0 + (-((a 1 1 * a 2 2 - a 1 2 * a 2 1) + (a 2 1 * a 0 2 - a 2 2 * a 0 1) + (a 0 1 * a 1 2 - a 0 2 * a 1 1))) * a 2 0 + (-((a 1 2 * a 2 0 - a 1 0 * a 2 2) + (a 2 2 * a 0 0 - a 2 0 * a 0 2) + (a 0 2 * a 1 0 - a 0 0 * a 1 2))) * a 2 1 + (-((a 1 0 * a 2 1 - a 1 1 * a 2 0) + (a 2 0 * a 0 1 - a 2 1 * a 0 0) + (a 0 0 * a 1 1 - a 0 1 * a 1 0))) * a 2 2 ≤ -((a 0 0 * (a 1 1 * a 2 2 - a 1 2 * a 2 1) + a 0 1 * (a 1 2 * a 2 0 - a 1 0 * a 2 2) + a 0 2 * (a 1 0 * a 2 1 - a 1 1 * a 2 0))) := by grind
  have t : ((a 1 1 * a 2 2 - a 1 2 * a 2 1) + (a 1 2 * a 2 0 - a 1 0 * a 2 2) + (a 1 0 * a 2 1 - a 1 1 * a 2 0)) + ((a 2 1 * a 0 2 - a 2 2 * a 0 1) + (a 2 2 * a 0 0 - a 2 0 * a 0 2) + (a 2 0 * a 0 1 - a 2 1 * a 0 0)) + ((a 0 1 * a 1 2 - a 0 2 * a 1 1) + (a 0 2 * a 1 0 - a 0 0 * a 1 2) + (a 0 0 * a 1 1 - a 0 1 * a 1 0)) < 0 := by grind
  exact ⟨t, fun m hm => match m, hm with | 0, _ => ⟨p0, q0, r0, s0⟩ | 1, _ => ⟨p1, q1, r1, s1⟩ | 2, _ => ⟨p2, q2, r2, s2⟩ | n + 3, h => absurd h (by omega)⟩
def gSome (a : Nat → Nat → Int) : Prop := gOk1 3 a 0 0 ∨ gOk1 3 a 0 1 ∨ gOk1 3 a 0 2 ∨ gOk1 3 a 1 0 ∨ gOk1 3 a 1 1 ∨ gOk1 3 a 1 2 ∨ gOk1 3 a 2 0 ∨ gOk1 3 a 2 1 ∨ gOk1 3 a 2 2 ∨ gOk2 3 a 0 1 0 1 ∨ gOk2 3 a 0 1 0 2 ∨ gOk2 3 a 0 1 1 2 ∨ gOk2 3 a 0 2 0 1 ∨ gOk2 3 a 0 2 0 2 ∨ gOk2 3 a 0 2 1 2 ∨ gOk2 3 a 1 2 0 1 ∨ gOk2 3 a 1 2 0 2 ∨ gOk2 3 a 1 2 1 2 ∨ gOk3 a
