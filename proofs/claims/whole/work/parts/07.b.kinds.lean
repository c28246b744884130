/-! PURE: the kinds; how far; bits of small numbers -/
def pl (k l f t : Nat) : Nat :=
  if k = 1 then (if t % 2 = 0 then 2 * l - f + 3 else 2 * l - f)
  else if k = 2 then (if 5 < f then 0 else 2 * l - f)
  else if k = 3 then min 30 (2 * (if t % 2 = 0 then 2 * l - f + 3 else 2 * l - f))
  else if k = 4 then (if 6 ≤ t then min 30 (2 * (if t % 2 = 0 then 2 * l - f + 3 else 2 * l - f)) else 0)
  else if k = 5 then (if 5 < f then 0 else if 1 ≤ 2 * l - f then 2 * l - f + 1 else 2 * l - f)
  else 2 * l - f
def nt (k f : Nat) : Nat := if k = 3 then 12 - 2 * f + 4 else if k = 5 then (12 - 2 * f + 1) / 2 else 12 - 2 * f
def dr (k p : Nat) : Nat := if k = 1 then 2 * p else if k = 2 then 0 else if k = 4 then 2 * p + 2 else if k = 5 then (2 * p + 2) / 2 else p
def se (k f p : Nat) : Bool := decide (dr k p < nt k f)
def bI (b : Bool) : Int32 := if b then 1 else 0
def dist (a b : Nat) : Nat := (if a / 6 < b / 6 then b / 6 - a / 6 else a / 6 - b / 6) + (if a % 6 < b % 6 then b % 6 - a % 6 else a % 6 - b % 6)
theorem dist_le : ∀ a, a < 30 → ∀ b, b < 30 → dist a b < 10 := by decide +kernel
theorem dist_sym (a b : Nat) : dist a b = dist b a := by unfold dist; split <;> split <;> split <;> split <;> omega
theorem pl_le : ∀ k, k < 6 → ∀ l, l < 10 → ∀ f, f < 10 → ∀ t, t < 12 → pl k l f t ≤ 30 := by decide +kernel
theorem c_pull : ∀ k, k < 6 → ∀ l, l < 10 → ∀ f, f < 10 → ∀ t, t < 12 → fX1_pullBy (nI k) (nI l) (nI f) (nI t) = some (nI (pl k l f t)) := by decide +kernel
theorem m_pull : ∀ k, k < 6 → ∀ l, l < 10 → ∀ f, f < 10 → ∀ t, t < 12 → fX9_pullAs (nI k) (nI f) (nI t) (nI l) = some (nI (pl k l f t)) := by decide +kernel
theorem c_sees : ∀ k, k < 6 → ∀ f, f < 10 → ∀ p, p < 41 → fX1_seesBy (nI k) (nI f) (nI p) = some (bI (se k f p)) := by decide +kernel
theorem m_sees : ∀ k, k < 6 → ∀ f, f < 10 → ∀ p, p < 41 → fX9_seesAs (nI k) (nI f) (nI p) = some (bI (se k f p)) := by decide +kernel
theorem c_drawn : ∀ k, k < 6 → ∀ p, p < 41 → fX1_drawnBy (nI k) (nI p) = some (nI (dr k p)) := by decide +kernel
theorem m_drawn : ∀ k, k < 6 → ∀ p, p < 41 → fX9_drawnAs (nI k) (nI p) = some (nI (dr k p)) := by decide +kernel
theorem c_far : ∀ a, a < 30 → ∀ b, b < 30 → fX8_far (nI a) (nI b) = some (nI (dist a b)) := by decide +kernel
theorem m_far : ∀ a, a < 30 → ∀ b, b < 30 → fX9_distance (nI a) (nI b) = some (nI (dist a b)) := by decide +kernel
/-- how many bits -/
def pc : Nat → Nat → Nat
  | 0, _ => 0
  | n + 1, x => x % 2 + pc n (x / 2)
theorem c_bits : ∀ n, n < 64 → fJ6_bitCount_0f7a4 (nI n) = some (nI (pc 6 n)) := by decide +kernel
