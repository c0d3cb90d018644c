/-! PURE: rain: by shines against by nights. -/
theorem x_power (ρ : Rho) {t k : Nat} (hk : k ≤ 8) : fX4_power ρ (lN t) (nI k) = some (lN (t ^ k)) := by
  have key : ∀ j n i, i + j = k → j < n → fX4_power_5 ρ n (lN t) (nI k) (lN (t ^ i)) (nI i) = some (lN (t ^ k)) := by
    intro j
    induction j with
    | zero =>
      intro n i hi hn
      obtain ⟨n, rfl⟩ : ∃ p0, n = p0 + 1 := ⟨n - 1, by omega⟩
      obtain rfl : i = k := by omega
      rw [fX4_power_5, if_pos (nI_le (Nat.le_refl _) (by omega))]
    | succ j ih =>
      intro n i hi hn
      obtain ⟨n, rfl⟩ : ∃ p0, n = p0 + 1 := ⟨n - 1, by omega⟩
      rw [fX4_power_5, if_neg (nI_ge (show i < k by omega) (by omega)), lN_mul, nI_1, show t ^ i * t = t ^ (i + 1) from rfl]
      exact ih n (i + 1) (by omega) (by omega)
  exact key k FU 0 (by omega) (FU_gt (by omega))
def ch (n : Nat) : Nat → Nat
  | 0 => 1
  | w + 1 => ch n w * (n - w) / (w + 1)
theorem ch_le : ∀ n, n ≤ 8 → ∀ w, w ≤ 9 → ch n w ≤ 70 := by decide +kernel
def wetT (n k t w : Nat) : Nat := if w < k then 0 else (t - 1) ^ (n - w)
theorem pw_le {t n w : Nat} (ht : t ≤ 20) (hn : n ≤ 8) : (t - 1) ^ (n - w) ≤ 19 ^ 8 := Nat.le_trans (Nat.pow_le_pow_left (show t - 1 ≤ 19 by omega) _) (Nat.pow_le_pow_right (by omega) (by omega))
theorem wetT_le {t n k w : Nat} (ht : t ≤ 20) (hn : n ≤ 8) : wetT n k t w ≤ 19 ^ 8 := by
  unfold wetT
  by_cases c : w < k
  · rw [if_pos c]; omega
  · rw [if_neg c]; exact pw_le ht hn
theorem x_wet (ρ : Rho) {t n k : Nat} (h2 : 2 ≤ t) (ht : t ≤ 20) (hn : n ≤ 8) (hk : k ≤ 8) : fX4_wetWays ρ (nI t) (nI n) (nI k) = some (lN (sumTo (n + 1) (fun w => ch n w * wetT n k t w))) := by
  have key : ∀ j m i, i + j = n + 1 → j < m → fX4_wetWays_8 ρ m (nI t) (nI n) (nI k) (lN (sumTo i (fun w => ch n w * wetT n k t w))) (lN (ch n i)) (nI i) = some (lN (sumTo (n + 1) (fun w => ch n w * wetT n k t w))) := by
    intro j
    induction j with
    | zero =>
      intro m i hi hm
      obtain ⟨m, rfl⟩ : ∃ p0, m = p0 + 1 := ⟨m - 1, by omega⟩
      obtain rfl : i = n + 1 := by omega
      rw [fX4_wetWays_8, if_pos (nI_lt (show n < n + 1 by omega) (by omega))]
    | succ j ih =>
      intro m i hi hm
      obtain ⟨m, rfl⟩ : ∃ p0, m = p0 + 1 := ⟨m - 1, by omega⟩
      have hin : i ≤ n := by omega
      have hc := ch_le n hn i (by omega)
      have hcm : ch n i * (n - i) ≤ 70 * 8 := Nat.mul_le_mul hc (by omega)
      have step : ∀ s, fX4_wetWays_37 ρ (fX4_wetWays_8 ρ m) (nI t) (nI n) (nI k) (lN s) (lN (ch n i)) (nI i) = fX4_wetWays_8 ρ m (nI t) (nI n) (nI k) (lN s) (lN (ch n (i + 1))) (nI (i + 1)) := fun s => by
        rw [fX4_wetWays_37, pk_sub hin, nI_l (show n - i < 2 ^ 31 by omega), nI_1, nI_l (show i + 1 < 2 ^ 31 by omega), lN_mul]
        unfold dvL
        rw [if_neg (show ¬ lN (i + 1) = 0 from fun h => absurd ((pk_lEQ (a := i + 1) (b := 0) (by omega) (by omega)).mp h) (by omega)), pk_lDiv (by omega) (by omega) (by omega), Option.bind_some]
        rfl
      have nx : ∀ s, s = sumTo (i + 1) (fun w => ch n w * wetT n k t w) → fX4_wetWays_37 ρ (fX4_wetWays_8 ρ m) (nI t) (nI n) (nI k) (lN s) (lN (ch n i)) (nI i) = some (lN (sumTo (n + 1) (fun w => ch n w * wetT n k t w))) := fun s hs => by
        rw [step, hs]
        exact ih m (i + 1) (by omega) (by omega)
      rw [fX4_wetWays_8, if_neg (show ¬ nI n < nI i from fun h => absurd h (by rw [nI_ltI (by omega) (by omega)]; omega))]
      by_cases c : i < k
      · rw [if_pos (nI_lt c (by omega))]
        refine nx _ ?_
        show _ = _ + ch n i * wetT n k t i
        unfold wetT
        rw [if_pos c]
        omega
      · rw [if_neg (show ¬ nI i < nI k from fun h => absurd h (by rw [nI_ltI (by omega) (by omega)]; omega)), pk_sub hin, show (1 : Int32) = nI 1 from rfl, pk_sub (show 1 ≤ t by omega), nI_l (show t - 1 < 2 ^ 31 by omega), x_power ρ (show n - i ≤ 8 by omega), Option.bind_some, lN_mul, lN_add]
        refine nx _ ?_
        show _ = _ + ch n i * wetT n k t i
        rw [show wetT n k t i = (t - 1) ^ (n - i) from if_neg c]
  exact key (n + 1) FU 0 (by omega) (FU_gt (by omega))
theorem m_wet (ρ : Rho) {q t n k : Nat} (h2 : 2 ≤ t) (ht : t ≤ 20) (hn : n ≤ 8) (hk : k ≤ 8) (p : Int32) : fX10_rain ρ q (nI t) (nI n) (nI k) p = (fX10_isIn ρ p 0 1).bind fun y => if y = 0 then some 1000000001 else (fX10_partOf ρ (lN (sumTo (2 ^ n) (fun s => wetT n k t (bc s)))) (lN (t ^ n)) p).bind fun z => some z := by
  have hp : 2 ^ n ≤ 256 := Nat.pow_le_pow_right (by omega) hn
  have w93 : ∀ j m i v5 v7 s acc, (n - i = j) → i ≤ 8 → j < m → fX10_rain_93 ρ (fX10_rain_75 ρ v5) m (nI t) (nI n) (nI k) p v7 (lN (t ^ n)) (nI s) (lN acc) (nI i) = fX10_rain_93 ρ (fX10_rain_75 ρ v5) 1 (nI t) (nI n) (nI k) p v7 (lN (t ^ n)) (nI s) (lN (acc * (t - 1) ^ (n - i))) (nI n) := by
    intro j
    induction j with
    | zero =>
      intro m i v5 v7 s acc hi h8 hm
      obtain ⟨m, rfl⟩ : ∃ p0, m = p0 + 1 := ⟨m - 1, by omega⟩
      rw [fX10_rain_93, fX10_rain_93, if_pos (nI_le (show n ≤ i by omega) (by omega)), if_pos (nI_le (Nat.le_refl _) (by omega)), hi, Nat.pow_zero, Nat.mul_one]
    | succ j ih =>
      intro m i v5 v7 s acc hi h8 hm
      obtain ⟨m, rfl⟩ : ∃ p0, m = p0 + 1 := ⟨m - 1, by omega⟩
      rw [fX10_rain_93, if_neg (nI_ge (show i < n by omega) (by omega)), show (1 : Int32) = nI 1 from rfl, pk_sub (show 1 ≤ t by omega), nI_l (show t - 1 < 2 ^ 31 by omega), lN_mul, nI_add, ih m (i + 1) v5 v7 s _ (by omega) (by omega) (by omega), Nat.mul_assoc, ← Nat.pow_succ', show (n - (i + 1)).succ = n - i by omega]
  have w75 : ∀ j m s, s + j = 2 ^ n → j < m → fX10_rain_75 ρ m (nI t) (nI n) (nI k) p (lN (sumTo s (fun s => wetT n k t (bc s)))) (lN (t ^ n)) (nI s) = (fX10_partOf ρ (lN (sumTo (2 ^ n) (fun s => wetT n k t (bc s)))) (lN (t ^ n)) p).bind fun z => some z := by
    intro j
    induction j with
    | zero =>
      intro m s hs hm
      obtain ⟨m, rfl⟩ : ∃ p0, m = p0 + 1 := ⟨m - 1, by omega⟩
      obtain rfl : s = 2 ^ n := by omega
      rw [fX10_rain_75, fa_lit 1, fa_lit 31, shl_1 _ hn, if_pos (nI_le (Nat.le_refl _) (by omega))]
    | succ j ih =>
      intro m s hs hm
      obtain ⟨m, rfl⟩ : ∃ p0, m = p0 + 1 := ⟨m - 1, by omega⟩
      have h256 : s < 256 := by omega
      have hb := bc_le s
      rw [fX10_rain_75, fa_lit 1, fa_lit 31, shl_1 _ hn, if_neg (nI_ge (show s < 2 ^ n by omega) (by omega)), m_bits ρ h256, Option.bind_some, show (1 : Int64) = lN 1 from rfl, w93 _ FU (bc s) m _ s 1 rfl hb (FU_gt (by omega)), fX10_rain_93, if_pos (nI_le (Nat.le_refl _) (by omega)), m_bits ρ h256, Option.bind_some, fX10_rain_131, fX10_rain_131, nI_1, show (0 : Int64) = lN 0 from rfl, lN_add, lN_add, Nat.one_mul]
      by_cases c : bc s < k
      · rw [if_pos (nI_lt c (by omega)), ← ih m (s + 1) (by omega) (by omega)]
        show fX10_rain_75 ρ m (nI t) (nI n) (nI k) p (lN (_ + 0)) _ _ = fX10_rain_75 ρ m (nI t) (nI n) (nI k) p (lN (_ + wetT n k t (bc s))) _ _
        rw [show wetT n k t (bc s) = 0 from if_pos c]
      · rw [if_neg (show ¬ nI (bc s) < nI k from fun h => absurd h (by rw [nI_ltI (by omega) (by omega)]; omega)), ← ih m (s + 1) (by omega) (by omega)]
        show _ = fX10_rain_75 ρ m (nI t) (nI n) (nI k) p (lN (_ + wetT n k t (bc s))) _ _
        rw [show wetT n k t (bc s) = (t - 1) ^ (n - bc s) from if_neg c]
  have w53 : ∀ j m i, i + j = n → j < m → fX10_rain_53 ρ m (nI t) (nI n) (nI k) p (lN 0) (lN (t ^ i)) (nI i) = (fX10_partOf ρ (lN (sumTo (2 ^ n) (fun s => wetT n k t (bc s)))) (lN (t ^ n)) p).bind fun z => some z := by
    intro j
    induction j with
    | zero =>
      intro m i hi hm
      obtain ⟨m, rfl⟩ : ∃ p0, m = p0 + 1 := ⟨m - 1, by omega⟩
      obtain rfl : i = n := by omega
      rw [fX10_rain_53, if_pos (nI_le (Nat.le_refl _) (by omega))]
      exact w75 (2 ^ i) FU 0 (by omega) (FU_gt (by omega))
    | succ j ih =>
      intro m i hi hm
      obtain ⟨m, rfl⟩ : ∃ p0, m = p0 + 1 := ⟨m - 1, by omega⟩
      rw [fX10_rain_53, if_neg (nI_ge (show i < n by omega) (by omega)), nI_l (show t < 2 ^ 31 by omega), lN_mul, nI_1, show t ^ i * t = t ^ (i + 1) from rfl]
      exact ih m (i + 1) (by omega) (by omega)
  unfold fX10_rain fX10_rain_40
  have e1 : fX10_isIn ρ (nI t) 2 20 = some (nI 1) := m_isIn_in ρ (lo := 2) (hi := 20) h2 ht (by omega)
  have e2 : fX10_isIn ρ (nI n) 0 8 = some (nI 1) := m_isIn_in ρ (lo := 0) (hi := 8) (by omega) hn (by omega)
  have e3 : fX10_isIn ρ (nI k) 0 8 = some (nI 1) := m_isIn_in ρ (lo := 0) (hi := 8) (by omega) hk (by omega)
  have e4 : fX10_rain_53 ρ FU (nI t) (nI n) (nI k) p 0 1 0 = _ := w53 n FU 0 (by omega) (FU_gt (by omega))
  rw [e1, Option.bind_some, if_neg n10, e2, Option.bind_some, if_neg n10, e3, Option.bind_some, if_neg n10, e4]
def cnt (N w : Nat) : Nat := sumTo N (fun s => if bc s = w then 1 else 0)
theorem cnt_ch : ∀ n, n ≤ 8 → ∀ w, w < 9 → cnt (2 ^ n) w = if w < n + 1 then ch n w else 0 := by decide +kernel
theorem sum_pick {b : Nat} {g : Nat → Nat} : ∀ N, sumTo N (fun w => (if b = w then 1 else 0) * g w) = if b < N then g b else 0 := by
  intro N
  induction N with
  | zero => rfl
  | succ N ih =>
    show sumTo N _ + _ = _
    rw [ih]
    dsimp only
    by_cases c : b = N
    · subst c
      rw [if_neg (by omega), if_pos rfl, if_pos (by omega)]; omega
    · rw [if_neg c]
      by_cases c2 : b < N
      · rw [if_pos c2, if_pos (by omega)]; omega
      · rw [if_neg c2, if_neg (by omega)]; omega
theorem sum_cnt (g : Nat → Nat) : ∀ N, sumTo N (fun s => g (bc s)) = sumTo 9 (fun w => cnt N w * g w) := by
  intro N
  induction N with
  | zero => 
    show 0 = sumTo 9 (fun w => 0 * g w)
    rw [sumTo_congr (g := fun _ => 0 * 0) (fun i _ => by rw [Nat.zero_mul])]
    decide
  | succ N ih =>
    have h := bc_le N
    show sumTo N (fun s => g (bc s)) + g (bc N) = sumTo 9 (fun w => (cnt N w + if bc N = w then 1 else 0) * g w)
    rw [ih, sumTo_congr (n := 9) (f := fun w => (cnt N w + if bc N = w then 1 else 0) * g w) (g := fun w => cnt N w * g w + (if bc N = w then 1 else 0) * g w) (fun i _ => Nat.add_mul _ _ _), sumTo_add, sum_pick, if_pos (by omega)]
theorem sum_ext {m : Nat} {f : Nat → Nat} : ∀ j, sumTo (m + j) (fun w => (if w < m then f w else 0)) = sumTo m f := by
  intro j
  induction j with
  | zero => exact sumTo_congr (fun i hi => if_pos hi)
  | succ j ih =>
    show sumTo (m + j) _ + _ = _
    rw [ih]
    show _ + (if m + j < m then _ else _) = _
    rw [if_neg (by omega)]
    rfl
theorem wet_eq {t n k : Nat} (hn : n ≤ 8) : sumTo (n + 1) (fun w => ch n w * wetT n k t w) = sumTo (2 ^ n) (fun s => wetT n k t (bc s)) := by
  rw [sum_cnt (fun w => wetT n k t w), sumTo_congr (n := 9) (g := fun w => if w < n + 1 then ch n w * wetT n k t w else 0) (fun w hw => by
    rw [cnt_ch n hn w hw]
    by_cases c : w < n + 1
    · rw [if_pos c, if_pos c]
    · rw [if_neg c, if_neg c, Nat.zero_mul])]
  have e := sum_ext (m := n + 1) (f := fun w => ch n w * wetT n k t w) (8 - n)
  rw [show n + 1 + (8 - n) = 9 by omega] at e
  exact e.symm
theorem cmp0 {b : Nat} (hb : b < 2 ^ 63) : lg_cmp (lN b) 0 = if b = 0 then 0 else 1 := by
  unfold lg_cmp
  by_cases c : b = 0
  · subst c
    rw [if_pos rfl]; decide
  · rw [if_neg c, if_pos (show lN b > 0 from (pk_lLT (a := 0) (by omega) hb).mpr (by omega))]
theorem rm_l {a b : Nat} (ha : a < 2 ^ 63) (h0 : 0 < b) (hb : b < 2 ^ 63) : rmL (lN a) (lN b) = some (lN (a % b)) := by
  unfold rmL
  rw [if_neg (show ¬ lN b = 0 from fun h => absurd ((pk_lEQ (a := b) (b := 0) hb (by omega)).mp h) (by omega)), pk_lRem ha h0 hb]
theorem dv_l {a b : Nat} (ha : a < 2 ^ 63) (h0 : 0 < b) (hb : b < 2 ^ 63) : dvL (lN a) (lN b) = some (lN (a / b)) := by
  unfold dvL
  rw [if_neg (show ¬ lN b = 0 from fun h => absurd ((pk_lEQ (a := b) (b := 0) hb (by omega)).mp h) (by omega)), pk_lDiv ha h0 hb]
theorem gcd_st (a b : Nat) : Nat.gcd a b = Nat.gcd b (a % b) := by rw [Nat.gcd_comm a b, Nat.gcd_rec b a, Nat.gcd_comm]
theorem mod_half {b r j : Nat} (h : b < 2 ^ (j + 1)) (hr : r < b) (h0 : 0 < r) : b % r < 2 ^ j := by
  have e := Nat.mod_add_div b r
  have l := Nat.mod_lt b h0
  have q : 1 ≤ b / r := Nat.div_pos (by omega) h0
  have m : r * 1 ≤ r * (b / r) := Nat.mul_le_mul_left r q
  have p : 2 ^ (j + 1) = 2 ^ j * 2 := rfl
  omega
theorem m_gcd (ρ : Rho) : ∀ j n a b, b < 2 ^ j → j ≤ 60 → a < 2 ^ 62 → 2 * j < n → fX10_gcd_6 ρ n (lN a) (lN b) = some (lN (Nat.gcd a b)) := by
  intro j
  induction j with
  | zero =>
    intro n a b hb hj ha hn
    obtain ⟨n, rfl⟩ : ∃ p0, n = p0 + 1 := ⟨n - 1, by omega⟩
    obtain rfl : b = 0 := by omega
    rw [fX10_gcd_6, cmp0 (by omega), if_pos rfl, if_pos rfl, Nat.gcd_zero_right]
  | succ j ih =>
    intro n a b hb hj ha hn
    obtain ⟨n, rfl⟩ : ∃ p0, n = p0 + 1 := ⟨n - 1, by omega⟩
    obtain ⟨n, rfl⟩ : ∃ p0, n = p0 + 1 := ⟨n - 1, by omega⟩
    have b61 : b < 2 ^ 61 := Nat.lt_of_lt_of_le hb (Nat.pow_le_pow_right (by omega) (by omega))
    rw [fX10_gcd_6, cmp0 (by omega)]
    by_cases c : b = 0
    · subst c
      rw [if_pos rfl, if_pos rfl, Nat.gcd_zero_right]
    · have l := Nat.mod_lt a (show 0 < b by omega)
      rw [if_neg c, if_neg (by decide), rm_l (by omega) (by omega) (by omega), Option.bind_some, fX10_gcd_6, cmp0 (by omega), gcd_st a b]
      by_cases c2 : a % b = 0
      · rw [c2, if_pos rfl, if_pos rfl, Nat.gcd_zero_right]
      · rw [if_neg c2, if_neg (by decide), rm_l (by omega) (by omega) (by omega), Option.bind_some, gcd_st b (a % b)]
        exact ih n _ _ (mod_half hb l (by omega)) (by omega) (by omega) (by omega)
theorem x_gcd (ρ : Rho) : ∀ j n a b i, b < 2 ^ j → j ≤ 60 → a < 2 ^ 62 → 2 * j < n → i + 2 * j < 1000 → fX4_commonDivisor_9 ρ n (lN a) (lN b) (nI i) = some (lN (Nat.gcd a b)) := by
  intro j
  induction j with
  | zero =>
    intro n a b i hb hj ha hn hi
    obtain ⟨n, rfl⟩ : ∃ p0, n = p0 + 1 := ⟨n - 1, by omega⟩
    obtain rfl : b = 0 := by omega
    rw [fX4_commonDivisor_9, if_neg (show ¬ (1000 : Int32) ≤ nI i from nI_ge (b := 1000) (by omega) (by omega)), cmp0 (by omega), if_pos rfl, if_pos rfl, Nat.gcd_zero_right]
  | succ j ih =>
    intro n a b i hb hj ha hn hi
    obtain ⟨n, rfl⟩ : ∃ p0, n = p0 + 1 := ⟨n - 1, by omega⟩
    obtain ⟨n, rfl⟩ : ∃ p0, n = p0 + 1 := ⟨n - 1, by omega⟩
    have b61 : b < 2 ^ 61 := Nat.lt_of_lt_of_le hb (Nat.pow_le_pow_right (by omega) (by omega))
    rw [fX4_commonDivisor_9, if_neg (show ¬ (1000 : Int32) ≤ nI i from nI_ge (b := 1000) (by omega) (by omega)), cmp0 (by omega)]
    by_cases c : b = 0
    · subst c
      rw [if_pos rfl, if_pos rfl, Nat.gcd_zero_right]
    · have l := Nat.mod_lt a (show 0 < b by omega)
      rw [if_neg c, if_neg (by decide), rm_l (by omega) (by omega) (by omega), Option.bind_some, nI_1, fX4_commonDivisor_9, if_neg (show ¬ (1000 : Int32) ≤ nI (i + 1) from nI_ge (b := 1000) (by omega) (by omega)), cmp0 (by omega), gcd_st a b]
      by_cases c2 : a % b = 0
      · rw [c2, if_pos rfl, if_pos rfl, Nat.gcd_zero_right]
      · rw [if_neg c2, if_neg (by decide), rm_l (by omega) (by omega) (by omega), Option.bind_some, gcd_st b (a % b), nI_1]
        exact ih n _ _ (i + 1 + 1) (mod_half hb l (by omega)) (by omega) (by omega) (by omega) (by omega)
theorem odds_eq (ρ : Rho) {A B p : Nat} (hA : A < 2 ^ 62) (h0 : 0 < B) (hB : B < 2 ^ 60) (hp : p ≤ 1) : ∃ v, fX4_leastTerms ρ (lN A) (lN B) (nI p) = some v ∧ fX10_partOf ρ (lN A) (lN B) (nI p) = some v := by
  have g0 : 0 < Nat.gcd A B := Nat.gcd_pos_of_pos_right A h0
  have gB : Nat.gcd A B ≤ B := Nat.le_of_dvd h0 (Nat.gcd_dvd_right A B)
  unfold fX4_leastTerms fX10_partOf fX4_commonDivisor
  rw [show fX4_commonDivisor_9 ρ FU (lN A) (lN B) 0 = _ from x_gcd ρ 60 FU A B 0 hB (by omega) hA (FU_gt (by omega)) (by omega), Option.bind_some, cmp0 (by omega), if_neg (show ¬ Nat.gcd A B = 0 by omega), if_pos (show (0 : Int32) < 1 by decide), cmp0 (by omega), dv_l (by omega) g0 (by omega), dv_l (by omega) g0 (by omega), Option.bind_some, Option.bind_some]
  rcases (show p = 0 ∨ p = 1 by omega) with rfl | rfl
  · rw [if_pos (of_eq_true z00), if_pos (of_eq_true z00)]
    by_cases c : A = 0
    · subst c
      rw [if_pos rfl, if_pos rfl, Nat.zero_div]
      exact ⟨_, rfl, rfl⟩
    · rw [if_neg c, if_neg (show ¬ (1 : Int32) = 0 by decide), fX10_partOf_20]
      unfold fX10_gcd
      rw [m_gcd ρ 60 FU A B hB (by omega) hA (FU_gt (by omega)), Option.bind_some, dv_l (by omega) g0 (by omega), Option.bind_some]
      exact ⟨_, rfl, rfl⟩
  · rw [if_neg n10, if_neg n10]
    by_cases c : A = 0
    · subst c
      rw [if_pos rfl, if_pos rfl, Nat.gcd_zero_left, Nat.div_self h0]
      exact ⟨_, rfl, rfl⟩
    · rw [if_neg c, if_neg (show ¬ (1 : Int32) = 0 by decide), fX10_partOf_20]
      unfold fX10_gcd
      rw [m_gcd ρ 60 FU A B hB (by omega) hA (FU_gt (by omega)), Option.bind_some, dv_l (by omega) g0 (by omega), Option.bind_some]
      exact ⟨_, rfl, rfl⟩
theorem sim_rain : Sim_rain Rel := by
  intro ρ z x q o a1 a2 a3 a4 hR hf
  obtain ⟨r, B, ⟨X0, X1⟩, ⟨M0, M1⟩, F, G, bt, ok⟩ := hR.c
  refine rr hR ?_
  unfold fX9_rain fX9_rain_38
  rcases or_assoc.mpr (rng a1 (lo := 2) (hi := 20) (by omega) (by omega)) with c | ⟨t, h2, ht, rfl⟩
  · unfold fX10_rain fX10_rain_40
    rw [show fX0_isWithin ρ a1 2 20 = some (nI 0) from x_within_out ρ c, show fX10_isIn ρ a1 2 20 = some (nI 0) from m_isIn_out ρ c, Option.bind_some, Option.bind_some, if_pos (of_eq_true z00), if_pos (of_eq_true z00)]
    exact ⟨_, rfl, rfl⟩
  have e1 : fX10_isIn ρ (nI t) 2 20 = some (nI 1) := m_isIn_in ρ (lo := 2) (hi := 20) h2 ht (by omega)
  rw [show fX0_isWithin ρ (nI t) 2 20 = some (nI 1) from x_within_in ρ (lo := 2) (hi := 20) h2 ht (by omega), Option.bind_some, if_neg n10]
  rcases or_assoc.mpr (rng a2 (lo := 0) (hi := 8) (by omega) (by omega)) with c | ⟨n, -, hn, rfl⟩
  · unfold fX10_rain fX10_rain_40
    rw [show fX0_isWithin ρ a2 0 8 = some (nI 0) from x_within_out ρ c, e1, show fX10_isIn ρ a2 0 8 = some (nI 0) from m_isIn_out ρ c, Option.bind_some, Option.bind_some, Option.bind_some, if_pos (of_eq_true z00), if_neg n10, if_pos (of_eq_true z00)]
    exact ⟨_, rfl, rfl⟩
  have e2 : fX10_isIn ρ (nI n) 0 8 = some (nI 1) := m_isIn_in ρ (lo := 0) (hi := 8) (by omega) hn (by omega)
  rw [show fX0_isWithin ρ (nI n) 0 8 = some (nI 1) from x_within_in ρ (lo := 0) (hi := 8) (by omega) hn (by omega), Option.bind_some, if_neg n10]
  rcases or_assoc.mpr (rng a3 (lo := 0) (hi := 8) (by omega) (by omega)) with c | ⟨k, -, hk, rfl⟩
  · unfold fX10_rain fX10_rain_40
    rw [show fX0_isWithin ρ a3 0 8 = some (nI 0) from x_within_out ρ c, e1, e2, show fX10_isIn ρ a3 0 8 = some (nI 0) from m_isIn_out ρ c, Option.bind_some, Option.bind_some, Option.bind_some, Option.bind_some, if_pos (of_eq_true z00), if_neg n10, if_neg n10, if_pos (of_eq_true z00)]
    exact ⟨_, rfl, rfl⟩
  rw [show fX0_isWithin ρ (nI k) 0 8 = some (nI 1) from x_within_in ρ (lo := 0) (hi := 8) (by omega) hk (by omega), Option.bind_some, if_neg n10, m_wet ρ h2 ht hn hk]
  rcases or_assoc.mpr (rng a4 (lo := 0) (hi := 1) (by omega) (by omega)) with c | ⟨p, -, hp, rfl⟩
  · rw [x_z1_out ρ c, show fX10_isIn ρ a4 0 1 = some (nI 0) from m_isIn_out ρ c, Option.bind_some, Option.bind_some, if_pos (of_eq_true z00), if_pos (of_eq_true z00)]
    exact ⟨_, rfl, rfl⟩
  · rw [x_z1_in ρ hp, show fX10_isIn ρ (nI p) 0 1 = some (nI 1) from m_z1_in ρ hp, Option.bind_some, Option.bind_some, if_neg n10, if_neg n10, nI_l (show t < 2 ^ 31 by omega), x_power ρ hn, x_wet ρ h2 ht hn hk, Option.bind_some, Option.bind_some, wet_eq hn]
    have hA : sumTo (2 ^ n) (fun s => wetT n k t (bc s)) ≤ 2 ^ n * 19 ^ 8 := sumTo_le (fun i _ => wetT_le ht hn)
    have hp2 : 2 ^ n * 19 ^ 8 ≤ 256 * 19 ^ 8 := Nat.mul_le_mul_right _ (Nat.pow_le_pow_right (n := 2) (by omega) hn)
    have hB : t ^ n ≤ 20 ^ 8 := Nat.le_trans (Nat.pow_le_pow_left ht n) (Nat.pow_le_pow_right (by omega) hn)
    obtain ⟨v, v1, v2⟩ := odds_eq ρ (A := sumTo (2 ^ n) (fun s => wetT n k t (bc s))) (B := t ^ n) (by omega) (Nat.pow_pos (by omega)) (by omega) hp
    rw [v1, v2]
    exact ⟨v, rfl, rfl⟩
