/-! PURE. The leaves, in natural numbers. -/
def apt (a b : Nat) : Nat := if (if a < b then b - a else a - b) ≤ 12 then (if a < b then b - a else a - b) else 24 - (if a < b then b - a else a - b)
def opn (f ap : Nat) : Nat := if ap ≤ 2 then f + 3 else if 7 ≤ ap then f / 2 else f
def shn0 (k f ap : Nat) : Nat := if k = 0 then opn f ap else if k = 5 then opn f ap / 2 else if k = 7 then opn f ap / 2 + 1 else 0
def due0 (k f : Nat) : Nat := if k = 0 then 2 + f else if k = 2 then 0 else if k = 3 ∨ k = 5 then 1 + f else if k = 7 then 2 * (1 + f) else 1
def mov0 (k f ap h : Nat) : Nat := if k = 3 then (if h % 2 = 0 then 1 else 0) else if k = 4 then (if ap ≤ 1 then 1 else 0) else if k = 6 then (if ap = 0 then 1 else 0) else if k = 7 then (if h % (f + 1) = 0 then 1 else 0) else 0
def sem0 (k f ap h : Nat) : Nat := if k = 0 then 9 else if k = 2 then 0 else if k = 5 ∨ k = 7 then 8 else if k = 3 then (if h % 2 = 0 then f - ap / 3 + 2 else f - ap / 3) else if k = 6 then 2 * (f - ap / 3) else f - ap / 3
def cst0 (k f : Nat) : Nat := if k = 0 then 5 else if k = 1 then 5 + f else if k = 2 then 1 else if k = 3 then 6 + f else if k = 4 then 10 + 2 * f else if k = 5 then 7 else if k = 6 then 4 + f else 3
def pnt0 (k : Nat) : Nat := if k = 1 ∨ k = 3 ∨ k = 4 ∨ k = 6 then 1 else 0
theorem lX_apart : ∀ a, a < 24 → ∀ b, b < 24 → fX1_apart ρN (nI a) (nI b) = some (nI (apt a b)) := by decide +kernel
theorem lM_apart : ∀ a, a < 24 → ∀ b, b < 24 → fX10_apart ρN (nI a) (nI b) = some (nI (apt a b)) := by decide +kernel
theorem lX_shine : ∀ k, k < 8 → ∀ f, f < 10 → ∀ a, a < 13 → fX1_shine ρN (nI k) (nI f) (nI a) = some (nI (shn0 k f a)) := by decide +kernel
theorem lM_shinesBy : ∀ k, k < 8 → ∀ f, f < 10 → ∀ a, a < 13 → fX10_shinesBy ρN (nI k) (nI f) (nI a) = some (nI (shn0 k f a)) := by decide +kernel
theorem lX_due : ∀ k, k < 8 → ∀ f, f < 10 → fX1_due ρN (nI k) (nI f) = some (nI (due0 k f)) := by decide +kernel
theorem lM_dueBy : ∀ k, k < 8 → ∀ f, f < 10 → fX10_dueBy ρN (nI k) (nI f) = some (nI (due0 k f)) := by decide +kernel
theorem lX_price : ∀ k, k < 8 → ∀ f, f < 10 → fX1_price ρN (nI k) (nI f) = some (nI (cst0 k f)) := by decide +kernel
theorem lM_costBy : ∀ k, k < 8 → ∀ f, f < 10 → fX10_costBy ρN (nI k) (nI f) = some (nI (cst0 k f)) := by decide +kernel
theorem lX_isPainted : ∀ k, k < 8 → fX1_isPainted ρN (nI k) = some (nI (pnt0 k)) := by decide +kernel
theorem lM_isPainted : ∀ k, k < 8 → fX10_isPainted ρN (nI k) = some (nI (pnt0 k)) := by decide +kernel
theorem apt_lt : ∀ a, a < 24 → ∀ b, b < 24 → apt a b < 13 ∧ apt a b = apt b a := by decide +kernel
theorem lX_moves : ∀ k, k < 8 → ∀ f, f < 10 → ∀ a, a < 13 → ∀ h, h < 24 → fX1_moves ρN (nI k) (nI f) (nI a) (nI h) = some (nI (mov0 k f a h)) := by decide +kernel
theorem lM_movesBy : ∀ k, k < 8 → ∀ f, f < 10 → ∀ a, a < 13 → ∀ h, h < 24 → fX10_movesBy ρN (nI k) (nI f) (nI a) (nI h) = some (nI (mov0 k f a h)) := by decide +kernel
theorem lX_seeming : ∀ k, k < 8 → ∀ f, f < 10 → ∀ a, a < 13 → ∀ h, h < 24 → fX1_seeming ρN (nI k) (nI f) (nI a) (nI h) = some (nI (sem0 k f a h)) := by decide +kernel
theorem lM_seemsBy : ∀ k, k < 8 → ∀ f, f < 10 → ∀ a, a < 13 → ∀ h, h < 24 → fX10_seemsBy ρN (nI k) (nI f) (nI a) (nI h) = some (nI (sem0 k f a h)) := by decide +kernel
