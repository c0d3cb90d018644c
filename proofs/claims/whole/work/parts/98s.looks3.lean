/-! PURE: looks: both searches side by side. -/
section LJ
variable {ρ1 σ : Rho} {z z1 q : Nat} {r : Nat → Nat}
theorem s195 {v : Int32} (hv : ¬ v < 0) {b : Nat} (hb : b < 24) (k179 : Rho → Nat → Int32 → Int32 → Option (Int32 × Rho)) (k187 : Rho → Nat → Int32 → Int32 → Int32 → Option (Int32 × Rho)) (c : Int32) : ∀ k n a, a + k = b → k < n → fX10_looks_195 k179 k187 n σ q v c (nI b) (nI a) = k187 σ q v c (nI (b + 1)) := by
  intro k
  induction k with
  | zero =>
    intro n a ha hn
    obtain ⟨n, rfl⟩ : ∃ p0, n = p0 + 1 := ⟨n - 1, by omega⟩
    obtain rfl : a = b := by omega
    rw [fX10_looks_195, if_pos (nI_le (Nat.le_refl _) (by omega)), nI_1]
  | succ k ih =>
    intro n a ha hn
    obtain ⟨n, rfl⟩ : ∃ p0, n = p0 + 1 := ⟨n - 1, by omega⟩
    rw [fX10_looks_195, if_neg (nI_ge (show a < b by omega) (by omega)), if_pos (nn_le hv), fX10_looks_237, nI_1]
    exact ih n (a + 1) (by omega) (by omega)
theorem e195 {v : Int32} {b n : Nat} (hb : b < 24) (hn : 0 < n) (k179 : Rho → Nat → Int32 → Int32 → Option (Int32 × Rho)) (k187 : Rho → Nat → Int32 → Int32 → Int32 → Option (Int32 × Rho)) (c : Int32) : fX10_looks_195 k179 k187 n σ q v c (nI b) (nI b) = k187 σ q v c (nI (b + 1)) := by
  obtain ⟨n, rfl⟩ : ∃ p0, n = p0 + 1 := ⟨n - 1, by omega⟩
  rw [fX10_looks_195, if_pos (nI_le (Nat.le_refl _) (by omega)), nI_1]
theorem s187 {v : Int32} (hv : ¬ v < 0) {c : Nat} (hc : c < 24) (k179 : Rho → Nat → Int32 → Int32 → Option (Int32 × Rho)) : ∀ k n b, b + k = c → k < n → fX10_looks_187 k179 n σ q v (nI c) (nI b) = k179 σ q v (nI (c + 1)) := by
  intro k
  induction k with
  | zero =>
    intro n b ha hn
    obtain ⟨n, rfl⟩ : ∃ p0, n = p0 + 1 := ⟨n - 1, by omega⟩
    obtain rfl : b = c := by omega
    rw [fX10_looks_187, if_pos (nI_le (Nat.le_refl _) (by omega)), nI_1]
  | succ k ih =>
    intro n b ha hn
    obtain ⟨n, rfl⟩ : ∃ p0, n = p0 + 1 := ⟨n - 1, by omega⟩
    rw [fX10_looks_187, if_neg (nI_ge (show b < c by omega) (by omega)), show (0 : Int32) = nI 0 from rfl, s195 hv (show b < 24 by omega) _ _ _ b FU 0 (by omega) (FU_gt (by omega))]
    exact ih n (b + 1) (by omega) (by omega)
theorem s179 {v : Int32} (hv : ¬ v < 0) : ∀ k n c, c + k = 24 → k < n → fX10_looks_179 n σ q v (nI c) = some (v, σ) := by
  intro k
  induction k with
  | zero =>
    intro n c ha hn
    obtain ⟨n, rfl⟩ : ∃ p0, n = p0 + 1 := ⟨n - 1, by omega⟩
    obtain rfl : c = 24 := by omega
    rw [fX10_looks_179, if_pos (show (24 : Int32) ≤ nI 24 by decide)]
  | succ k ih =>
    intro n c ha hn
    obtain ⟨n, rfl⟩ : ∃ p0, n = p0 + 1 := ⟨n - 1, by omega⟩
    rw [fX10_looks_179, if_neg (show ¬ (24 : Int32) ≤ nI c from nI_ge (b := 24) (by omega) (by omega)), show (0 : Int32) = nI 0 from rfl, s187 hv (show c < 24 by omega) _ c FU 0 (by omega) (FU_gt (by omega))]
    exact ih n (c + 1) (by omega) (by omega)
theorem s128 {v : Int32} (hv : ¬ v < 0) {b : Nat} (hb : b < 24) (k120 : Rho → Nat → Int32 → Int32 → Option (Int32 × Rho)) : ∀ k n a, a + k = b → k < n → fX10_looks_128 k120 n σ q v (nI b) (nI a) = k120 σ q v (nI (b + 1)) := by
  intro k
  induction k with
  | zero =>
    intro n a ha hn
    obtain ⟨n, rfl⟩ : ∃ p0, n = p0 + 1 := ⟨n - 1, by omega⟩
    obtain rfl : a = b := by omega
    rw [fX10_looks_128, if_pos (nI_le (Nat.le_refl _) (by omega)), nI_1]
  | succ k ih =>
    intro n a ha hn
    obtain ⟨n, rfl⟩ : ∃ p0, n = p0 + 1 := ⟨n - 1, by omega⟩
    rw [fX10_looks_128, if_neg (nI_ge (show a < b by omega) (by omega)), if_pos (nn_le hv), fX10_looks_159, nI_1]
    exact ih n (a + 1) (by omega) (by omega)
theorem s120 {v : Int32} (hv : ¬ v < 0) : ∀ k n b, b + k = 24 → k < n → fX10_looks_120 n σ q v (nI b) = some (v, σ) := by
  intro k
  induction k with
  | zero =>
    intro n c ha hn
    obtain ⟨n, rfl⟩ : ∃ p0, n = p0 + 1 := ⟨n - 1, by omega⟩
    obtain rfl : c = 24 := by omega
    rw [fX10_looks_120, if_pos (show (24 : Int32) ≤ nI 24 by decide), if_neg hv]
  | succ k ih =>
    intro n c ha hn
    obtain ⟨n, rfl⟩ : ∃ p0, n = p0 + 1 := ⟨n - 1, by omega⟩
    rw [fX10_looks_120, if_neg (show ¬ (24 : Int32) ≤ nI c from nI_ge (b := 24) (by omega) (by omega)), show (0 : Int32) = nI 0 from rfl, s128 hv (show c < 24 by omega) _ c FU 0 (by omega) (FU_gt (by omega))]
    exact ih n (c + 1) (by omega) (by omega)
theorem s82 {v : Int32} (hv : ¬ v < 0) : ∀ k n b, b + k = 24 → k < n → fX10_looks_82 n σ q v (nI b) = some (v, σ) := by
  intro k
  induction k with
  | zero =>
    intro n c ha hn
    obtain ⟨n, rfl⟩ : ∃ p0, n = p0 + 1 := ⟨n - 1, by omega⟩
    obtain rfl : c = 24 := by omega
    rw [fX10_looks_82, if_pos (show (24 : Int32) ≤ nI 24 by decide), if_neg hv]
  | succ k ih =>
    intro n c ha hn
    obtain ⟨n, rfl⟩ : ∃ p0, n = p0 + 1 := ⟨n - 1, by omega⟩
    rw [fX10_looks_82, if_neg (show ¬ (24 : Int32) ≤ nI c from nI_ge (b := 24) (by omega) (by omega)), if_pos (nn_le hv), fX10_looks_106, nI_1]
    exact ih n (c + 1) (by omega) (by omega)
def CU (ρ1 : Rho) (z : Nat) (r : Nat → Nat) : Prop := ∀ M, (uP r M → fX8_areAllUnlike ρ1 z M = some (nI 1)) ∧ (¬ uP r M → fX8_areAllUnlike ρ1 z M = some (nI 0))
def MU (σ : Rho) (q : Nat) (r : Nat → Nat) : Prop := (∀ M, (uP r M → fX10_areUnlike σ q M = some (nI 1)) ∧ (¬ uP r M → fX10_areUnlike σ q M = some (nI 0))) ∧ ckO σ 3 q = some ()
theorem j3a (C : CU ρ1 z r) (U : MU σ q r) {c b : Nat} (hc : c < 24) (hb : b < 24) {k2 : Nat → Int32 → Option Int32} {k10 : Nat → Int32 → Int32 → Option Int32} {k179 : Rho → Nat → Int32 → Int32 → Option (Int32 × Rho)} {k187 : Rho → Nat → Int32 → Int32 → Int32 → Option (Int32 × Rho)} (HK : ∃ V, k10 z (nI c) (nI (b + 1)) = some V ∧ k187 σ q (-4) (nI c) (nI (b + 1)) = some (V, σ)) (HS : ∀ v : Int32, ¬ v < 0 → k187 σ q v (nI c) (nI (b + 1)) = some (v, σ)) : ∀ k n m a, a + k = b → k < n → k < m → ∃ V, fX8_leastOfThreeLooks_17 ρ1 k2 k10 n z (nI c) (nI b) (nI a) = some V ∧ fX10_looks_195 k179 k187 m σ q (-4) (nI c) (nI b) (nI a) = some (V, σ) := by
  intro k
  induction k with
  | zero =>
    intro n m a ha hn hm
    obtain ⟨n, rfl⟩ : ∃ p0, n = p0 + 1 := ⟨n - 1, by omega⟩
    obtain ⟨m, rfl⟩ : ∃ p0, m = p0 + 1 := ⟨m - 1, by omega⟩
    obtain rfl : a = b := by omega
    rw [fX8_leastOfThreeLooks_17, fX10_looks_195, if_pos (nI_le (Nat.le_refl _) (by omega)), if_pos (nI_le (Nat.le_refl _) (by omega)), nI_1]
    exact HK
  | succ k ih =>
    intro n m a ha hn hm
    obtain ⟨n, rfl⟩ : ∃ p0, n = p0 + 1 := ⟨n - 1, by omega⟩
    obtain ⟨m, rfl⟩ : ∃ p0, m = p0 + 1 := ⟨m - 1, by omega⟩
    have hnn := or_nn (or_nn (sh_nn c hc) (sh_nn b hb)) (sh_nn a (by omega))
    rw [fX8_leastOfThreeLooks_17, fX10_looks_195, if_neg (nI_ge (show a < b by omega) (by omega)), if_neg (nI_ge (show a < b by omega) (by omega)), if_neg (show ¬ (0 : Int32) ≤ -4 by decide), U.2, Option.bind_some, fX10_looks_237, fX10_looks_237, nI_1]
    generalize (((1 : Int32) <<< (nI c &&& 31)) ||| ((1 : Int32) <<< (nI b &&& 31))) ||| ((1 : Int32) <<< (nI a &&& 31)) = M at hnn
    by_cases u : uP r M
    · rw [(C M).1 u, (U.1 M).1 u, Option.bind_some, Option.bind_some, if_neg n10, if_neg n10, s195 hnn hb _ _ _ k m (a + 1) (by omega) (by omega)]
      exact ⟨M, rfl, HS M hnn⟩
    · rw [(C M).2 u, (U.1 M).2 u, Option.bind_some, Option.bind_some, if_pos (of_eq_true z00), if_pos (of_eq_true z00)]
      exact ih n m (a + 1) (by omega) (by omega) (by omega)
theorem j3b (C : CU ρ1 z r) (U : MU σ q r) {c : Nat} (hc : c < 24) {k2 : Nat → Int32 → Option Int32} {k179 : Rho → Nat → Int32 → Int32 → Option (Int32 × Rho)} (HK : ∃ V, k2 z (nI (c + 1)) = some V ∧ k179 σ q (-4) (nI (c + 1)) = some (V, σ)) (HS : ∀ v : Int32, ¬ v < 0 → k179 σ q v (nI (c + 1)) = some (v, σ)) : ∀ k n m b, b + k = c → k < n → k < m → ∃ V, fX8_leastOfThreeLooks_10 ρ1 k2 n z (nI c) (nI b) = some V ∧ fX10_looks_187 k179 m σ q (-4) (nI c) (nI b) = some (V, σ) := by
  intro k
  induction k with
  | zero =>
    intro n m a ha hn hm
    obtain ⟨n, rfl⟩ : ∃ p0, n = p0 + 1 := ⟨n - 1, by omega⟩
    obtain ⟨m, rfl⟩ : ∃ p0, m = p0 + 1 := ⟨m - 1, by omega⟩
    obtain rfl : a = c := by omega
    rw [fX8_leastOfThreeLooks_10, fX10_looks_187, if_pos (nI_le (Nat.le_refl _) (by omega)), if_pos (nI_le (Nat.le_refl _) (by omega)), nI_1]
    exact HK
  | succ k ih =>
    intro n m b ha hn hm
    obtain ⟨n, rfl⟩ : ∃ p0, n = p0 + 1 := ⟨n - 1, by omega⟩
    obtain ⟨m, rfl⟩ : ∃ p0, m = p0 + 1 := ⟨m - 1, by omega⟩
    rw [fX8_leastOfThreeLooks_10, fX10_looks_187, if_neg (nI_ge (show b < c by omega) (by omega)), if_neg (nI_ge (show b < c by omega) (by omega))]
    exact j3a C U hc (by omega) (ih n m (b + 1) (by omega) (by omega) (by omega)) (fun v hv => (s187 hv hc _ k m (b + 1) (by omega) (by omega)).trans (HS v hv)) b FU FU 0 (by omega) (FU_gt (by omega)) (FU_gt (by omega))
theorem e187 {v : Int32} {c n : Nat} (hc : c < 24) (h0 : 0 < c) (hn : 0 < n) (k179 : Rho → Nat → Int32 → Int32 → Option (Int32 × Rho)) : fX10_looks_187 k179 n σ q v (nI c) (nI 0) = fX10_looks_187 k179 (n - 1) σ q v (nI c) (nI 1) := by
  obtain ⟨n, rfl⟩ : ∃ p0, n = p0 + 1 := ⟨n - 1, by omega⟩
  rw [fX10_looks_187, if_neg (nI_ge h0 (by omega)), show (0 : Int32) = nI 0 from rfl, e195 (by omega) (FU_gt (by omega))]
  rfl
theorem j3c (C : CU ρ1 z r) (U : MU σ q r) : ∀ k n m c, c + k = 24 → 2 ≤ c → k < n → k < m → ∃ V, fX8_leastOfThreeLooks_2 ρ1 n z (nI c) = some V ∧ fX10_looks_179 m σ q (-4) (nI c) = some (V, σ) := by
  intro k
  induction k with
  | zero =>
    intro n m a ha h2 hn hm
    obtain ⟨n, rfl⟩ : ∃ p0, n = p0 + 1 := ⟨n - 1, by omega⟩
    obtain ⟨m, rfl⟩ : ∃ p0, m = p0 + 1 := ⟨m - 1, by omega⟩
    obtain rfl : a = 24 := by omega
    rw [fX8_leastOfThreeLooks_2, fX10_looks_179, if_pos (show (24 : Int32) ≤ nI 24 by decide), if_pos (show (24 : Int32) ≤ nI 24 by decide)]
    exact ⟨_, rfl, rfl⟩
  | succ k ih =>
    intro n m c ha h2 hn hm
    obtain ⟨n, rfl⟩ : ∃ p0, n = p0 + 1 := ⟨n - 1, by omega⟩
    obtain ⟨m, rfl⟩ : ∃ p0, m = p0 + 1 := ⟨m - 1, by omega⟩
    have hc : c < 24 := by omega
    rw [fX8_leastOfThreeLooks_2, fX10_looks_179, if_neg (show ¬ (24 : Int32) ≤ nI c from nI_ge (b := 24) hc (by omega)), if_neg (show ¬ (24 : Int32) ≤ nI c from nI_ge (b := 24) hc (by omega)), show (0 : Int32) = nI 0 from rfl, e187 hc (by omega) (FU_gt (by omega))]
    exact j3b C U hc (ih n m (c + 1) (by omega) (by omega) (by omega) (by omega)) (fun v hv => s179 hv k m (c + 1) (by omega) (by omega)) (c - 1) FU (FU - 1) 1 (by omega) (FU_gt (by omega)) (by have : 1000 < FU := FU_gt (by omega); omega)
theorem j3 (C : CU ρ1 z r) (U : MU σ q r) {m : Nat} (hm : 100 < m) : ∃ V, fX8_leastOfThreeLooks ρ1 z = some V ∧ fX10_looks_179 m σ q (-4) (nI 0) = some (V, σ) := by
  obtain ⟨m, rfl⟩ : ∃ p0, m = p0 + 1 := ⟨m - 1, by omega⟩
  obtain ⟨m, rfl⟩ : ∃ p0, m = p0 + 1 := ⟨m - 1, by omega⟩
  have f0 : ∀ (k179 : Rho → Nat → Int32 → Int32 → Option (Int32 × Rho)) n, 0 < n → fX10_looks_187 k179 n σ q (-4) (nI 0) (nI 0) = k179 σ q (-4) (nI 1) := fun k179 n hn => by
    obtain ⟨n, rfl⟩ : ∃ p0, n = p0 + 1 := ⟨n - 1, by omega⟩
    rw [fX10_looks_187, if_pos (show nI 0 ≤ nI 0 by decide)]
    rfl
  have f1 : ∀ (k179 : Rho → Nat → Int32 → Int32 → Option (Int32 × Rho)) n, 0 < n → fX10_looks_187 k179 n σ q (-4) (nI 1) (nI 1) = k179 σ q (-4) (nI 2) := fun k179 n hn => by
    obtain ⟨n, rfl⟩ : ∃ p0, n = p0 + 1 := ⟨n - 1, by omega⟩
    rw [fX10_looks_187, if_pos (show nI 1 ≤ nI 1 by decide)]
    rfl
  have h1 : 1000 < FU := FU_gt (by omega)
  rw [fX10_looks_179, if_neg (show ¬ (24 : Int32) ≤ nI 0 by decide), show (0 : Int32) = nI 0 from rfl, f0 _ FU (by omega), fX10_looks_179, if_neg (show ¬ (24 : Int32) ≤ nI 1 by decide), show (0 : Int32) = nI 0 from rfl, e187 (show 1 < 24 by omega) (by omega) (by omega), f1 _ (FU - 1) (by omega)]
  exact j3c C U 22 FU m 2 (by omega) (by omega) (by omega) (by omega)
theorem j2a (C : CU ρ1 z r) (U : MU σ q r) {b : Nat} (hb : b < 24) {k45 : Rho → Nat → Nat → Int32 → Option (Int32 × Rho × Nat)} {k120 : Rho → Nat → Int32 → Int32 → Option (Int32 × Rho)} (HK : ∃ V, k45 ρ1 z1 z (nI (b + 1)) = some (V, ρ1, z1) ∧ k120 σ q (-4) (nI (b + 1)) = some (V, σ)) (HS : ∀ v : Int32, ¬ v < 0 → k120 σ q v (nI (b + 1)) = some (v, σ)) : ∀ k n m a, a + k = b → k < n → k < m → ∃ V, fX8_fewestLooks_53 k45 n ρ1 z1 z (nI b) (nI a) = some (V, ρ1, z1) ∧ fX10_looks_128 k120 m σ q (-4) (nI b) (nI a) = some (V, σ) := by
  intro k
  induction k with
  | zero =>
    intro n m a ha hn hm
    obtain ⟨n, rfl⟩ : ∃ p0, n = p0 + 1 := ⟨n - 1, by omega⟩
    obtain ⟨m, rfl⟩ : ∃ p0, m = p0 + 1 := ⟨m - 1, by omega⟩
    obtain rfl : a = b := by omega
    rw [fX8_fewestLooks_53, fX10_looks_128, if_pos (nI_le (Nat.le_refl _) (by omega)), if_pos (nI_le (Nat.le_refl _) (by omega)), nI_1]
    exact HK
  | succ k ih =>
    intro n m a ha hn hm
    obtain ⟨n, rfl⟩ : ∃ p0, n = p0 + 1 := ⟨n - 1, by omega⟩
    obtain ⟨m, rfl⟩ : ∃ p0, m = p0 + 1 := ⟨m - 1, by omega⟩
    have hnn := or_nn (sh_nn b hb) (sh_nn a (by omega))
    rw [fX8_fewestLooks_53, fX10_looks_128, if_neg (nI_ge (show a < b by omega) (by omega)), if_neg (nI_ge (show a < b by omega) (by omega)), if_neg (show ¬ (0 : Int32) ≤ -4 by decide), U.2, Option.bind_some, fX10_looks_159, fX10_looks_159, nI_1]
    generalize ((1 : Int32) <<< (nI b &&& 31)) ||| ((1 : Int32) <<< (nI a &&& 31)) = M at hnn
    by_cases u : uP r M
    · rw [(C M).1 u, (U.1 M).1 u, Option.bind_some, Option.bind_some, if_neg n10, if_neg n10, s128 hnn hb _ k m (a + 1) (by omega) (by omega)]
      exact ⟨M, rfl, HS M hnn⟩
    · rw [(C M).2 u, (U.1 M).2 u, Option.bind_some, Option.bind_some, if_pos (of_eq_true z00), if_pos (of_eq_true z00)]
      exact ih n m (a + 1) (by omega) (by omega) (by omega)
theorem j2b (C : CU ρ1 z r) (U : MU σ q r) : ∀ k n m b, b + k = 24 → k < n → k < m → ∃ V, fX8_fewestLooks_45 n ρ1 z1 z (nI b) = some (V, ρ1, z1) ∧ fX10_looks_120 m σ q (-4) (nI b) = some (V, σ) := by
  intro k
  induction k with
  | zero =>
    intro n m a ha hn hm
    obtain ⟨n, rfl⟩ : ∃ p0, n = p0 + 1 := ⟨n - 1, by omega⟩
    obtain ⟨m, rfl⟩ : ∃ p0, m = p0 + 1 := ⟨m - 1, by omega⟩
    obtain rfl : a = 24 := by omega
    obtain ⟨V, v1, v2⟩ := j3 C U (m := FU) (FU_gt (by omega))
    rw [fX8_fewestLooks_45, fX10_looks_120, if_pos (show (24 : Int32) ≤ nI 24 by decide), if_pos (show (24 : Int32) ≤ nI 24 by decide), if_pos (show (-4 : Int32) < 0 by decide), v1, Option.bind_some]
    exact ⟨V, rfl, v2⟩
  | succ k ih =>
    intro n m c ha hn hm
    obtain ⟨n, rfl⟩ : ∃ p0, n = p0 + 1 := ⟨n - 1, by omega⟩
    obtain ⟨m, rfl⟩ : ∃ p0, m = p0 + 1 := ⟨m - 1, by omega⟩
    have hc : c < 24 := by omega
    rw [fX8_fewestLooks_45, fX10_looks_120, if_neg (show ¬ (24 : Int32) ≤ nI c from nI_ge (b := 24) hc (by omega)), if_neg (show ¬ (24 : Int32) ≤ nI c from nI_ge (b := 24) hc (by omega))]
    exact j2a C U hc (ih n m (c + 1) (by omega) (by omega) (by omega)) (fun v hv => s120 hv k m (c + 1) (by omega) (by omega)) c FU FU 0 (by omega) (FU_gt (by omega)) (FU_gt (by omega))
theorem j1 (C : CU ρ1 z r) (U : MU σ q r) : ∀ k n m b, b + k = 24 → k < n → k < m → ∃ V, fX8_fewestLooks_17 n ρ1 z1 z (nI b) = some (V, ρ1, z1) ∧ fX10_looks_82 m σ q (-4) (nI b) = some (V, σ) := by
  intro k
  induction k with
  | zero =>
    intro n m a ha hn hm
    obtain ⟨n, rfl⟩ : ∃ p0, n = p0 + 1 := ⟨n - 1, by omega⟩
    obtain ⟨m, rfl⟩ : ∃ p0, m = p0 + 1 := ⟨m - 1, by omega⟩
    obtain rfl : a = 24 := by omega
    rw [fX8_fewestLooks_17, fX10_looks_82, if_pos (show (24 : Int32) ≤ nI 24 by decide), if_pos (show (24 : Int32) ≤ nI 24 by decide), if_pos (show (-4 : Int32) < 0 by decide)]
    have e : ∀ m, 0 < m → fX10_looks_120 m σ q (-4) (nI 0) = fX10_looks_120 (m - 1) σ q (-4) (nI 1) := fun m hm => by
      obtain ⟨m, rfl⟩ : ∃ p0, m = p0 + 1 := ⟨m - 1, by omega⟩
      have e0 : ∀ (k120 : Rho → Nat → Int32 → Int32 → Option (Int32 × Rho)) n, 0 < n → fX10_looks_128 k120 n σ q (-4) (nI 0) (nI 0) = k120 σ q (-4) (nI 1) := fun k120 n hn => by
        obtain ⟨n, rfl⟩ : ∃ p0, n = p0 + 1 := ⟨n - 1, by omega⟩
        rw [fX10_looks_128, if_pos (show nI 0 ≤ nI 0 by decide)]
        rfl
      rw [fX10_looks_120, if_neg (show ¬ (24 : Int32) ≤ nI 0 by decide), show (0 : Int32) = nI 0 from rfl, e0 _ FU (FU_gt (by omega))]
      rfl
    have h1 : 1000 < FU := FU_gt (by omega)
    rw [show fX10_looks_120 FU σ q (-4) 0 = _ from e FU (by omega)]
    exact j2b C U 23 FU (FU - 1) 1 (by omega) (by omega) (by omega)
  | succ k ih =>
    intro n m c ha hn hm
    obtain ⟨n, rfl⟩ : ∃ p0, n = p0 + 1 := ⟨n - 1, by omega⟩
    obtain ⟨m, rfl⟩ : ∃ p0, m = p0 + 1 := ⟨m - 1, by omega⟩
    have hc : c < 24 := by omega
    have hnn := sh_nn c hc
    rw [fX8_fewestLooks_17, fX10_looks_82, if_neg (show ¬ (24 : Int32) ≤ nI c from nI_ge (b := 24) hc (by omega)), if_neg (show ¬ (24 : Int32) ≤ nI c from nI_ge (b := 24) hc (by omega)), if_neg (show ¬ (0 : Int32) ≤ -4 by decide), U.2, Option.bind_some, fX10_looks_106, fX10_looks_106, nI_1]
    generalize ((1 : Int32) <<< (nI c &&& 31)) = M at hnn
    by_cases u : uP r M
    · rw [(C M).1 u, (U.1 M).1 u, Option.bind_some, Option.bind_some, if_neg n10, if_neg n10, s82 hnn k m (c + 1) (by omega) (by omega)]
      exact ⟨M, rfl, rfl⟩
    · rw [(C M).2 u, (U.1 M).2 u, Option.bind_some, Option.bind_some, if_pos (of_eq_true z00), if_pos (of_eq_true z00)]
      exact ih n m (c + 1) (by omega) (by omega) (by omega)
end LJ
theorem sim_looks : Sim_looks Rel := by
  intro ρ z0 x q o  hR hf
  obtain ⟨z, h, n, i, d, sf, se, mo, a, b, g, w, u, t, sk, sm, ⟨hx, hq, ho⟩, I, gd, sh⟩ := id hR
  subst hq ho
  subst hx
  obtain ⟨⟨g1, g2⟩, ⟨ea, ok, bt⟩, gi⟩ := id gd
  have hA : ArrR ρ (x + 37) n.1 := ea ▸ I.A
  have F := I.N.f ok.1.1
  have G := hA.f ok.1.1
  have X1 : gR ρ 2 x 0 = some (x + 1) := gR_at I.X rfl
  have M0 : ckO ρ 3 (x + 36) = some () := ckO_at I.O
  have M1 : gR ρ 3 (x + 36) 0 = some (x + 37) := gR_at I.O rfl
  have h8 := ok.1.1
  obtain ⟨fq, hq⟩ := I.Q
  have hz : x + 49 < z0 := hf _ (by rw [hq]; exact fun h => by cases h)
  obtain ⟨ρ1, e1, fr, f, hz1, hf1⟩ := x_movingHours (z := z0) I.N (by omega) bt ok
  have I1 := I.uX (ρ' := ρ1) (fun j hj hc => fr _ (by omega)) ((fr x (by omega)).trans I.X)
  have A1 : ArrR ρ1 (x + 37) n.1 := ea ▸ I1.A
  obtain ⟨σ, t', e2, f2, L⟩ := m_fill ok I1.O A1 I1.T
  have C : CU ρ1 z0 n.1 := fun M => x_unlike h8 hz1 hf1 M
  have U : MU σ (x + 36) n.1 := ⟨fun M => m_unlike ok L M, ckO_at L.1⟩
  have rel : Rel σ x (x + 36) (x + 49) := ⟨x, h, n, i, d, sf, se, mo, a, b, g, w, u, t', sk, sm, ⟨rfl, rfl, rfl⟩, I1.uT (fun j hj hc => f2 _ (by omega)) L.2.2.1, gd, sh⟩
  have main : ∃ V, fX9_looks ρ z0 x = some (V, ρ1, z0 + 1) ∧ fX10_looks ρ1 (x + 36) = some (V, σ) := by
    unfold fX9_looks fX8_fewestLooks
    rw [e2, X1, Option.bind_some, e1, Option.bind_some, U.2, Option.bind_some]
    dsimp only
    by_cases p : uP n.1 0
    · rw [(C 0).1 p, (U.1 0).1 p, Option.bind_some, Option.bind_some, if_neg n10, if_neg n10, Option.bind_some]
      exact ⟨0, rfl, rfl⟩
    · rw [(C 0).2 p, (U.1 0).2 p, Option.bind_some, Option.bind_some, if_pos (of_eq_true z00), if_pos (of_eq_true z00)]
      obtain ⟨V, v1, v2⟩ := j1 (z1 := z0 + 1) C U 24 FU FU 0 (by omega) (FU_gt (by omega)) (FU_gt (by omega))
      rw [show fX8_fewestLooks_17 FU ρ1 (z0 + 1) z0 0 = _ from v1, Option.bind_some]
      exact ⟨V, rfl, v2⟩
  obtain ⟨V, v1, v2⟩ := main
  exact ⟨(), V, ρ1, z0 + 1, (), σ, ckO_at I.X, v1, ckO_at I1.O, v2, rel⟩
