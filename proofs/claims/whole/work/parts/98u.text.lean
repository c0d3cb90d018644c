/-! PURE: house: the bytes of a row, and how the class goes over them. -/
def scn (c : Nat → Nat) (len : Nat) : Nat → Nat → Option Nat
  | 0, _ => none
  | n + 1, p => if p < len ∧ 48 ≤ c p ∧ c p ≤ 57 then scn c len n (p + 1) else some p
def dgs (k : Nat) : Nat := if k = 104 then 2 else if k = 110 then 3 else if k = 112 then 3 else if k = 114 then 1 else if k = 115 then 1 else if k = 119 then 5 else if k = 121 then 2 else 0
def smc (c : Nat → Nat) (len e : Nat) : Option Nat := if e < len ∧ c e = 59 then none else some e
def orE (a b : Option Nat) : Option Nat := match a with
  | some f => some f
  | none => b
def flt (c : Nat → Nat) (len p : Nat) : Option Nat := if p < len then (if dgs (c p) = 0 then some p else orE (scn c len (dgs (c p)) (p + 1)) (smc c len (p + 1 + dgs (c p)))) else some p
def nm (c : Nat → Nat) (p : Nat) : Nat → Nat
  | 0 => 0
  | n + 1 => 10 * nm c p n + c (p + n) - 48
def sv (o : Option Nat) : Nat := match o with
  | none => 1
  | some _ => 0
def sp (o : Option Nat) (d : Nat) : Nat := match o with
  | none => d
  | some f => f
def fxv (o : Option Nat) : Int32 := match o with
  | none => -1
  | some f => nI f
theorem scn_add {c : Nat → Nat} {len b : Nat} : ∀ a p, scn c len (a + b) p = orE (scn c len a p) (scn c len b (p + a)) := by
  intro a
  induction a with
  | zero =>
    intro p
    rw [Nat.zero_add]
    rfl
  | succ a ih =>
    intro p
    rw [show a + 1 + b = (a + b) + 1 by omega, scn, scn]
    by_cases h : p < len ∧ 48 ≤ c p ∧ c p ≤ 57
    · rw [if_pos h, if_pos h, ih (p + 1), show p + 1 + a = p + (a + 1) by omega]
    · rw [if_neg h, if_neg h]
      rfl
theorem scn_le {c : Nat → Nat} {len : Nat} : ∀ n p, p ≤ len → sp (scn c len n p) (p + n) ≤ len := by
  intro n
  induction n with
  | zero => exact fun p hp => hp
  | succ n ih =>
    intro p hp
    rw [scn]
    by_cases h : p < len ∧ 48 ≤ c p ∧ c p ≤ 57
    · rw [if_pos h]
      have := ih (p + 1) (by omega)
      rwa [show p + 1 + n = p + (n + 1) by omega] at this
    · rw [if_neg h]
      exact hp
theorem scn_none {c : Nat → Nat} {len : Nat} : ∀ n p, scn c len n p = none → ∀ j, j < n → p + j < len ∧ 48 ≤ c (p + j) ∧ c (p + j) ≤ 57 := by
  intro n
  induction n with
  | zero => exact fun p _ j hj => by omega
  | succ n ih =>
    intro p h j hj
    rw [scn] at h
    by_cases q : p < len ∧ 48 ≤ c p ∧ c p ≤ 57
    · rw [if_pos q] at h
      cases j with
      | zero => exact q
      | succ j =>
        have := ih (p + 1) h j (by omega)
        rwa [show p + 1 + j = p + (j + 1) by omega] at this
    · rw [if_neg q] at h
      cases h
theorem nm_lt {c : Nat → Nat} {p : Nat} : ∀ n, (∀ j, j < n → 48 ≤ c (p + j) ∧ c (p + j) ≤ 57) → nm c p n < 10 ^ n := by
  intro n
  induction n with
  | zero => exact fun _ => by show 0 < 1; omega
  | succ n ih =>
    intro h
    have h1 := ih (fun j hj => h j (by omega))
    obtain ⟨h2, h3⟩ := h n (by omega)
    show 10 * nm c p n + c (p + n) - 48 < 10 ^ n * 10
    omega
theorem flt_none {c : Nat → Nat} {len p : Nat} (h : flt c len p = none) : p < len ∧ dgs (c p) ≠ 0 ∧ scn c len (dgs (c p)) (p + 1) = none ∧ p + 1 + dgs (c p) < len := by
  unfold flt at h
  by_cases h1 : p < len
  · rw [if_pos h1] at h
    by_cases h2 : dgs (c p) = 0
    · rw [if_pos h2] at h; cases h
    · rw [if_neg h2] at h
      cases e : scn c len (dgs (c p)) (p + 1) with
      | some f => rw [e] at h; cases h
      | none =>
        rw [e] at h
        have h : smc c len (p + 1 + dgs (c p)) = none := h
        unfold smc at h
        by_cases h3 : p + 1 + dgs (c p) < len ∧ c (p + 1 + dgs (c p)) = 59
        · exact ⟨h1, h2, rfl, h3.1⟩
        · rw [if_neg h3] at h; cases h
  · rw [if_neg h1] at h; cases h
theorem flt_le {c : Nat → Nat} {len p f : Nat} (hp : p ≤ len) (h : flt c len p = some f) : f ≤ len := by
  unfold flt at h
  by_cases h1 : p < len
  · rw [if_pos h1] at h
    by_cases h2 : dgs (c p) = 0
    · rw [if_pos h2] at h; cases h; exact hp
    · rw [if_neg h2] at h
      have l := scn_le (c := c) (len := len) (dgs (c p)) (p + 1) (by omega)
      cases e : scn c len (dgs (c p)) (p + 1) with
      | some g => rw [e] at h l; cases h; exact l
      | none =>
        rw [e] at h l
        have h : smc c len (p + 1 + dgs (c p)) = some f := h
        unfold smc at h
        by_cases h3 : p + 1 + dgs (c p) < len ∧ c (p + 1 + dgs (c p)) = 59
        · rw [if_pos h3] at h; cases h
        · rw [if_neg h3] at h; cases h; exact l
  · rw [if_neg h1] at h; cases h; exact hp
theorem dgs_le (k : Nat) : dgs k ≤ 5 := by
  unfold dgs
  repeat' split
  all_goals omega
def CT (ρ : Rho) (a b : Nat) (F E : Nat → Int32) : Prop := ρ a = some (oC 1 [.int (F 0), .int (F 1), .int (F 2), .int (F 3), .int (F 4), .ref b]) ∧ ρ b = some (iC 100 E)
def KB (c : Nat → Nat) (len : Nat) (F E : Nat → Int32) : Prop := F 4 = nI len ∧ len ≤ 100 ∧ ∀ j, j < len → c j < 256 ∧ ((c j < 128 ∧ E j = nI (c j)) ∨ (128 ≤ c j ∧ E j < 0))
section TX
variable {ρ : Rho} {a b len : Nat} {F E : Nat → Int32} {c : Nat → Nat}
theorem KB.eq (K : KB c len F E) {j k : Nat} (hj : j < len) (hk : k < 128) : (E j = nI k) = (c j = k) := by
  obtain ⟨h1, h2⟩ := K.2.2 j hj
  rcases h2 with ⟨h2, h3⟩ | ⟨h2, h3⟩
  · rw [h3]
    exact propext (nI_eq (by omega) (by omega))
  · exact propext ⟨fun h => absurd h3 (by rw [h]; exact nI_pos (by omega)), fun h => by omega⟩
theorem KB.dig (K : KB c len F E) {j : Nat} (hj : j < len) : fX7_isDigit ρ (E j) = some (nI (if 48 ≤ c j ∧ c j ≤ 57 then 1 else 0)) := by
  obtain ⟨h1, h2⟩ := K.2.2 j hj
  unfold fX7_isDigit
  rcases h2 with ⟨h2, h3⟩ | ⟨h2, h3⟩
  · rw [h3, fa_lit 48, fa_lit 57]
    by_cases c1 : c j < 48
    · rw [if_pos (nI_lt c1 (by omega)), if_neg (by omega)]
      rfl
    · rw [if_neg (show ¬ nI (c j) < nI 48 from fun h => c1 ((nI_ltI (by omega) (by omega)).mp h))]
      by_cases c2 : 57 < c j
      · rw [if_pos (nI_lt c2 (by omega)), if_neg (by omega)]
        rfl
      · rw [if_neg (show ¬ nI 57 < nI (c j) from fun h => c2 ((nI_ltI (by omega) (by omega)).mp h)), if_pos (by omega)]
        rfl
  · have : E j < 48 := by
      rw [Int32.lt_iff_toInt_lt] at h3 ⊢
      have e1 : (0 : Int32).toInt = 0 := rfl
      have e2 : (48 : Int32).toInt = 48 := rfl
      omega
    rw [if_pos this, if_neg (by omega)]
    rfl
theorem KB.beh (K : KB c len F E) {j : Nat} (hj : j < len) : fX7_digitsBehind ρ (E j) = some (nI (dgs (c j))) := by
  unfold fX7_digitsBehind dgs
  simp only [show (E j = (104 : Int32)) = (c j = 104) from K.eq (k := 104) hj (by omega), show (E j = (110 : Int32)) = (c j = 110) from K.eq (k := 110) hj (by omega), show (E j = (112 : Int32)) = (c j = 112) from K.eq (k := 112) hj (by omega), show (E j = (114 : Int32)) = (c j = 114) from K.eq (k := 114) hj (by omega), show (E j = (115 : Int32)) = (c j = 115) from K.eq (k := 115) hj (by omega), show (E j = (119 : Int32)) = (c j = 119) from K.eq (k := 119) hj (by omega), show (E j = (121 : Int32)) = (c j = 121) from K.eq (k := 121) hj (by omega)]
  by_cases c1 : c j = 104
  · rw [if_pos c1, if_pos c1]; rfl
  rw [if_neg c1, if_neg c1]
  by_cases c1 : c j = 110
  · rw [if_pos c1, if_pos c1]; rfl
  rw [if_neg c1, if_neg c1]
  by_cases c1 : c j = 112
  · rw [if_pos c1, if_pos c1]; rfl
  rw [if_neg c1, if_neg c1]
  by_cases c1 : c j = 114
  · rw [if_pos c1, if_pos c1]; rfl
  rw [if_neg c1, if_neg c1]
  by_cases c1 : c j = 115
  · rw [if_pos c1, if_pos c1]; rfl
  rw [if_neg c1, if_neg c1]
  by_cases c1 : c j = 119
  · rw [if_pos c1, if_pos c1]; rfl
  rw [if_neg c1, if_neg c1]
  by_cases c1 : c j = 121
  · rw [if_pos c1, if_pos c1]; rfl
  rw [if_neg c1, if_neg c1]
  rfl
theorem CT.g4 (T : CT ρ a b F E) (K : KB c len F E) : gI ρ 1 a 4 = some (nI len) := by
  rw [← K.1]
  exact gI_at T.1 rfl
theorem CT.pl_in (T : CT ρ a b F E) (K : KB c len F E) {j : Nat} (hj : j < len) : fX6_isPlace ρ a (nI j) = some (nI 1) := by
  have h := K.2.1
  unfold fX6_isPlace
  rw [if_neg (nI_pos (by omega)), T.g4 K, Option.bind_some, if_neg (nI_ge hj (by omega))]
  rfl
theorem CT.pl_out (T : CT ρ a b F E) (K : KB c len F E) {j : Nat} (hj : len ≤ j) (hb : j < 2 ^ 31) : fX6_isPlace ρ a (nI j) = some (nI 0) := by
  unfold fX6_isPlace
  rw [if_neg (nI_pos hb), T.g4 K, Option.bind_some, if_pos (nI_le hj hb)]
  rfl
theorem CT.ld (T : CT ρ a b F E) (K : KB c len F E) {j : Nat} (hj : j < len) : ldI ρ b (nI j) = some (E j) := ldI_at T.2 (by have := K.2.1; omega) (by omega)
theorem x_fbs (T : CT ρ a b F E) (K : KB c len F E) {p : Nat} (hp : p ≤ len) : fX7_faultyByteOfStatement ρ a (nI p) = some (fxv (flt c len p)) := by
  have hl := K.2.1
  have C0 : ckO ρ 1 a = some () := ckO_at T.1
  have G5 : gR ρ 1 a 5 = some b := gR_at T.1 rfl
  have loop : ∀ d, d ≤ 5 → ∀ k n j, j + k = d + 1 → k < n → p + j ≤ len → fX7_faultyByteOfStatement_33 ρ n a (nI p) (nI d) (nI (p + j)) = some (fxv (orE (scn c len k (p + j)) (smc c len (p + 1 + d)))) := by
    intro d hd k
    induction k with
    | zero =>
      intro n j hj hn hpj
      obtain ⟨n, rfl⟩ : ∃ p0, n = p0 + 1 := ⟨n - 1, by omega⟩
      obtain rfl : j = d + 1 := by omega
      rw [fX7_faultyByteOfStatement_33, nI_add, if_pos (nI_lt (show p + d < p + (d + 1) by omega) (by omega)), C0, Option.bind_some, nI_1, scn, show p + 1 + d = p + (d + 1) by omega, show p + d + 1 = p + (d + 1) by omega]
      show _ = some (fxv (smc c len (p + (d + 1))))
      unfold smc
      by_cases q : p + (d + 1) < len
      · rw [T.pl_in K q, Option.bind_some, if_neg n10, G5, Option.bind_some, T.ld K q, Option.bind_some]
        have e := K.eq q (show 59 < 128 by omega)
        by_cases q2 : c (p + (d + 1)) = 59
        · rw [if_pos (show E (p + (d + 1)) = 59 from e.mpr q2), if_pos ⟨q, q2⟩]
          rfl
        · rw [if_neg (show ¬ E (p + (d + 1)) = 59 from fun h => q2 (e.mp h)), if_neg (by omega)]
          rfl
      · rw [T.pl_out K (by omega) (by omega), Option.bind_some, if_pos (of_eq_true z00), T.g4 K, Option.bind_some, if_neg (by omega), show len = p + (d + 1) by omega]
        rfl
    | succ k ih =>
      intro n j hj hn hpj
      obtain ⟨n, rfl⟩ : ∃ p0, n = p0 + 1 := ⟨n - 1, by omega⟩
      rw [fX7_faultyByteOfStatement_33, nI_add, if_neg (show ¬ nI (p + d) < nI (p + j) from fun h => absurd ((nI_ltI (by omega) (by omega)).mp h) (by omega)), C0, Option.bind_some, scn, nI_1]
      by_cases q : p + j < len
      · rw [T.pl_in K q, Option.bind_some, if_neg n10, G5, Option.bind_some, T.ld K q, Option.bind_some, K.dig q, Option.bind_some]
        by_cases q2 : 48 ≤ c (p + j) ∧ c (p + j) ≤ 57
        · rw [if_pos q2, if_neg n10, if_pos ⟨q, q2⟩]
          exact ih n (j + 1) (by omega) (by omega) (by omega)
        · rw [if_neg q2, if_pos (of_eq_true z00), if_neg (show ¬ (p + j < len ∧ 48 ≤ c (p + j) ∧ c (p + j) ≤ 57) from fun h => q2 h.2)]
          rfl
      · rw [T.pl_out K (by omega) (by omega), Option.bind_some, if_pos (of_eq_true z00), T.g4 K, Option.bind_some, if_neg (show ¬ (p + j < len ∧ 48 ≤ c (p + j) ∧ c (p + j) ≤ 57) from fun h => q h.1), show len = p + j by omega]
        rfl
  unfold fX7_faultyByteOfStatement flt
  rw [C0, Option.bind_some]
  by_cases q : p < len
  · rw [T.pl_in K q, Option.bind_some, if_neg n10, G5, Option.bind_some, T.ld K q, Option.bind_some, K.beh q, Option.bind_some, if_pos q]
    by_cases q2 : dgs (c p) = 0
    · rw [q2, if_pos (of_eq_true z00), if_pos rfl]
      rfl
    · rw [if_neg (show ¬ nI (dgs (c p)) = 0 from fun h => q2 ((nI_eq (b := 0) (by have := dgs_le (c p); omega) (by omega)).mp h)), if_neg q2, nI_1]
      exact loop _ (dgs_le _) (dgs (c p)) FU 1 (by omega) (FU_gt (by have := dgs_le (c p); omega)) (by omega)
  · rw [T.pl_out K (by omega) (by omega), Option.bind_some, if_pos (of_eq_true z00), T.g4 K, Option.bind_some, if_neg q, show len = p by omega]
    rfl
theorem x_num (T : CT ρ a b F E) (K : KB c len F E) {p n : Nat} (hd : ∀ j, j < n → p + j < len ∧ 48 ≤ c (p + j) ∧ c (p + j) ≤ 57) (hn : n ≤ 5) (hp : p ≤ 200) : fX7_numberAt ρ a (nI p) (nI n) = some (nI (nm c p n)) := by
  have key : ∀ k m i, i + k = n → k < m → fX7_numberAt_5 ρ m a (nI p) (nI n) (nI (nm c p i)) (nI (p + i)) = some (nI (nm c p n)) := by
    intro k
    induction k with
    | zero =>
      intro m i hi hm
      obtain ⟨m, rfl⟩ : ∃ p0, m = p0 + 1 := ⟨m - 1, by omega⟩
      obtain rfl : i = n := by omega
      rw [fX7_numberAt_5, nI_add, if_pos (nI_le (Nat.le_refl _) (by omega))]
    | succ k ih =>
      intro m i hi hm
      obtain ⟨m, rfl⟩ : ∃ p0, m = p0 + 1 := ⟨m - 1, by omega⟩
      obtain ⟨h1, h2, h3⟩ := hd i (by omega)
      have hE : E (p + i) = nI (c (p + i)) := (K.eq h1 (show c (p + i) < 128 by omega)).mpr rfl
      rw [fX7_numberAt_5, nI_add, if_neg (nI_ge (show p + i < p + n by omega) (by omega)), ckO_at T.1, Option.bind_some, T.pl_in K h1, Option.bind_some, if_neg n10, show gR ρ 1 a 5 = some b from gR_at T.1 rfl, Option.bind_some, T.ld K h1, Option.bind_some, hE, show nI (nm c p i) * 10 = nI (nm c p i * 10) from pk_mul _ 10, nI_add, show nI (nm c p i * 10 + c (p + i)) - 48 = nI (nm c p i * 10 + c (p + i) - 48) from pk_sub (b := 48) (by omega), fX7_numberAt_38, nI_1]
      have e := ih m (i + 1) (by omega) (by omega)
      rw [nm, Nat.mul_comm 10] at e
      exact e
  exact key n FU 0 (by omega) (FU_gt (by omega))
end TX
