/-! cells and slots of what the pools may still grow -/
section CW
variable {a b c a' b' c' x y m nr nl ns : Nat}
theorem cw_b (h : m - c = c' - c) (h1 : ns ≤ c ∧ c ≤ c') : ((a - nr) + (b - nl) + (c - ns)) + (m - c) ≤ (a - nr) + (b - nl) + (c' - ns) := by omega
theorem cw_bs (h : m - c = c' - c) (h1 : ns ≤ c ∧ c ≤ c') : (7 * (a - nr) + 4 * (b - nl) + 12 * (c - ns)) + 12 * (m - c) ≤ 7 * (a - nr) + 4 * (b - nl) + 12 * (c' - ns) := by omega
theorem cw_r (h : x - a = a' - a) (g : y - b = b' - b) (h1 : nr ≤ a ∧ a ≤ a') (h2 : nl ≤ b ∧ b ≤ b') : ((a - nr) + (b - nl) + (c - ns)) + ((x - a) + (y - b)) ≤ (a' - nr) + (b' - nl) + (c - ns) := by omega
theorem cw_rs (h : x - a = a' - a) (g : y - b = b' - b) (h1 : nr ≤ a ∧ a ≤ a') (h2 : nl ≤ b ∧ b ≤ b') : (7 * (a - nr) + 4 * (b - nl) + 12 * (c - ns)) + (7 * (x - a) + 4 * (y - b)) ≤ 7 * (a' - nr) + 4 * (b' - nl) + 12 * (c - ns) := by omega
theorem cr_b (h1 : a ≤ 361 ∧ b ≤ 210 ∧ c ≤ 180) (hm : m ≤ 180) (hn : ns ≤ c) : ((a - nr) + (b - nl) + (c - ns)) + (m - c) ≤ (361 - nr) + (210 - nl) + (180 - ns) := by omega
theorem cr_bs (h1 : a ≤ 361 ∧ b ≤ 210 ∧ c ≤ 180) (hm : m ≤ 180) (hn : ns ≤ c) : (7 * (a - nr) + 4 * (b - nl) + 12 * (c - ns)) + 12 * (m - c) ≤ 7 * (361 - nr) + 4 * (210 - nl) + 12 * (180 - ns) := by omega
theorem cr_r (h1 : a ≤ 361 ∧ b ≤ 210 ∧ c ≤ 180) (hx : x ≤ 361) (hy : y ≤ 210) (hn : nr ≤ a ∧ nl ≤ b) : ((a - nr) + (b - nl) + (c - ns)) + ((x - a) + (y - b)) ≤ (361 - nr) + (210 - nl) + (180 - ns) := by omega
theorem cr_rs (h1 : a ≤ 361 ∧ b ≤ 210 ∧ c ≤ 180) (hx : x ≤ 361) (hy : y ≤ 210) (hn : nr ≤ a ∧ nl ≤ b) : (7 * (a - nr) + 4 * (b - nl) + 12 * (c - ns)) + (7 * (x - a) + 4 * (y - b)) ≤ 7 * (361 - nr) + 4 * (210 - nl) + 12 * (180 - ns) := by omega
theorem cw_l (h1 : a ≤ 361 ∧ b ≤ 210 ∧ c ≤ 180) : (a - nr) + (b - nl) + (c - ns) ≤ (361 - nr) + (210 - nl) + (180 - ns) := by omega
theorem cw_ls (h1 : a ≤ 361 ∧ b ≤ 210 ∧ c ≤ 180) : 7 * (a - nr) + 4 * (b - nl) + 12 * (c - ns) ≤ 7 * (361 - nr) + 4 * (210 - nl) + 12 * (180 - ns) := by omega
end CW
