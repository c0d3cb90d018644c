/-! PURE: whatWas, forged. -/
def unt (so : Nat) : Int32 := if so = 0 then -128 else if so = 1 then -32768 else -2147483648
/-- whether all of the next k hold -/
def allT (P : Nat → Bool) (k i : Nat) : Bool := match k with
  | 0 => true
  | k + 1 => P i && allT P k (i + 1)
/-- the first that does not hold, of the next k -/
def fst0 (P : Nat → Bool) (k i : Nat) : Nat := match k with
  | 0 => i
  | k + 1 => if P i = true then fst0 P k (i + 1) else i
theorem fst0_le (P : Nat → Bool) : ∀ k i, i ≤ fst0 P k i ∧ fst0 P k i ≤ i + k := by
  intro k
  induction k with
  | zero => exact fun i => ⟨Nat.le_refl _, Nat.le_refl _⟩
  | succ k ih =>
    intro i
    rw [fst0]
    split
    · have := ih (i + 1)
      omega
    · omega
section SH
variable {ρ : Rho} {x q e so len : Nat} {sf se sk : Nat → Nat → Int32} {sm : Nat → Int32}
theorem x_untold (S : SF ρ x q sf se sk sm e) (hs : so ≤ 2) (h : sf e 3 = nI so) : fX6_untold ρ (x + 20 + 2 * e) = some (unt so) := by
  unfold fX6_untold
  rw [S.1.2.2.1.2.2.2.1, h, Option.bind_some, Option.bind_some]
  rcases (show so = 0 ∨ so = 1 ∨ so = 2 by omega) with rfl | rfl | rfl <;> rfl
theorem m_leastOf (ρ : Rho) (hs : so ≤ 2) : fX10_leastOf ρ (nI so) = some (unt so) := by
  unfold fX10_leastOf
  rcases (show so = 0 ∨ so = 1 ∨ so = 2 by omega) with rfl | rfl | rfl <;> rfl
def whP (se : Nat → Nat → Int32) (e so kk f h i : Nat) : Bool := decide (se e i = unt so) || decide (se e i = nI (shn0 kk f (apt h i)))
theorem x_isShine (S : SF ρ x q sf se sk sm e) (hs : so ≤ 2) (h3 : sf e 3 = nI so) (h4 : sf e 4 = nI len) (hl : len ≤ 24) {kk f h : Nat} (hk : kk < 8) (hf : f < 10) (hh : h < 24) : fX2_isShineOf ρ (x + 20 + 2 * e) (nI kk) (nI f) (nI h) = some (if allT (whP se e so kk f h) len 0 = true then nI 1 else nI 0) := by
  have key : ∀ k n i, i + k = len → k < n → fX2_isShineOf_3 ρ n (x + 20 + 2 * e) (nI kk) (nI f) (nI h) (nI i) = some (if allT (whP se e so kk f h) k i = true then nI 1 else nI 0) := by
    intro k
    induction k with
    | zero =>
      intro n i hi hn
      obtain ⟨n, rfl⟩ : ∃ p0, n = p0 + 1 := ⟨n - 1, by omega⟩
      obtain rfl : i = len := by omega
      rw [fX2_isShineOf_3, allT]
      rw [S.1.2.2.1.2.2.2.2, h4, Option.bind_some, if_pos (nI_le (Nat.le_refl _) (by omega))]
      rfl
    | succ k ih =>
      intro n i hi hn
      obtain ⟨n, rfl⟩ : ∃ p0, n = p0 + 1 := ⟨n - 1, by omega⟩
      have hlt : i < len := by omega
      rw [fX2_isShineOf_3, allT]
      have hi24 : i < 24 := by omega
      simp (disch := omega) only [Option.bind_some, fa_lit, nI_add, pk_mul, nI_leI, nI_ltI, nI_eq, nb_0, nb_1, if_true, if_false, S.1.2.2.1.2.2.2.2, h4, cnle hlt, S.1.2.2.2.1, S.1.2.2.2.2 i (by omega), S.1.2.1, x_untold S hs h3, show fX1_apart ρ = fX1_apart ρN from rfl, lX_apart _ hh _ hi24, show fX1_shine ρ = fX1_shine ρN from rfl, lX_shine _ hk _ hf _ (apt_lt _ hh _ hi24).1, fX2_isShineOf_48]
      have e1 := ih n (i + 1) (by omega) (by omega)
      by_cases c : se e i = unt so
      · rw [if_pos c, e1]
        simp [whP, c]
      · rw [if_neg c]
        by_cases c2 : se e i = nI (shn0 kk f (apt h i))
        · rw [if_pos c2, e1]
          simp [whP, c2]
        · rw [if_neg c2]
          simp [whP, c, c2]
  exact key len FU 0 (by omega) (FU_gt (by omega))
theorem m_isShine (T : SG ρ x q) (S : SF ρ x q sf se sk sm e) (he : e < 8) (hs : so ≤ 2) (h3 : sk 3 e = nI so) (h4 : sk 4 e = nI len) (hE : ∀ j, j < 100 → se e j = sm (100 * e + j)) (hl : len ≤ 24) {kk f h : Nat} (hk : kk < 8) (hf : f < 10) (hh : h < 24) (k71 : Nat → Int32 → Int32 → Int32 → Int32 → Int32 → Int32 → Option Int32) (v4 v6 : Int32) : fX10_whatWas_84 ρ k71 FU q (nI e) (nI f) (nI h) v4 v6 (nI kk) (nI 1) (nI 0) = if allT (whP se e so kk f h) len 0 = true then k71 q (nI e) (nI f) (nI h) v4 (v6 ||| (nI 1 <<< (nI kk &&& nI 31))) (nI (kk + 1)) else k71 q (nI e) (nI f) (nI h) v4 v6 (nI (kk + 1)) := by
  have key : ∀ k n i b, i + k = len → k < n → b ≤ 1 → fX10_whatWas_84 ρ k71 n q (nI e) (nI f) (nI h) v4 v6 (nI kk) (nI b) (nI i) = if b = 1 ∧ allT (whP se e so kk f h) k i = true then k71 q (nI e) (nI f) (nI h) v4 (v6 ||| (nI 1 <<< (nI kk &&& nI 31))) (nI (kk + 1)) else k71 q (nI e) (nI f) (nI h) v4 v6 (nI (kk + 1)) := by
    intro k
    induction k with
    | zero =>
      intro n i b hi hn
      obtain ⟨n, rfl⟩ : ∃ p0, n = p0 + 1 := ⟨n - 1, by omega⟩
      obtain rfl : i = len := by omega
      rw [fX10_whatWas_84, allT]
      intro hb
      simp (disch := omega) only [Option.bind_some, fa_lit, nI_add, pk_mul, nI_leI, nI_ltI, nI_eq, nb_0, nb_1, if_true, if_false, T.2.2.2.2.2.1, S.2.1.2.2.2.2, h4, cle (Nat.le_refl i), fX10_whatWas_171, or0]
      rcases (show b = 0 ∨ b = 1 by omega) with rfl | rfl
      · rw [if_pos rfl, if_neg (by decide)]
      · rw [if_neg (by decide), if_pos (by decide)]
    | succ k ih =>
      intro n i b hi hn
      obtain ⟨n, rfl⟩ : ∃ p0, n = p0 + 1 := ⟨n - 1, by omega⟩
      have hlt : i < len := by omega
      rw [fX10_whatWas_84, allT]
      intro hb
      have hi24 : i < 24 := by omega
      have hand : ∀ y, y ≤ 1 → nI b &&& nI y = nI (b * y) := fun y hy => by
        rcases (show b = 0 ∨ b = 1 by omega) with rfl | rfl <;> rcases (show y = 0 ∨ y = 1 by omega) with rfl | rfl <;> rfl
      simp (disch := omega) only [Option.bind_some, fa_lit, nI_add, pk_mul, nI_leI, nI_ltI, nI_eq, nb_0, nb_1, if_true, if_false, T.2.2.2.2.2.1, S.2.1.2.2.2.2, h4, cnle hlt, T.2.2.2.2.2.2, S.2.2 i (by omega), ← hE i (by omega), T.2.2.2.2.1, S.2.1.2.2.2.1, h3, m_leastOf ρ hs, show fX10_apart ρ = fX10_apart ρN from rfl, lM_apart _ hi24 _ hh, ← (apt_lt _ hh _ hi24).2, show fX10_shinesBy ρ = fX10_shinesBy ρN from rfl, lM_shinesBy _ hk _ hf _ (apt_lt _ hh _ hi24).1, fX10_whatWas_142, fX10_whatWas_147, hand 0 (by omega), hand 1 (by omega), Nat.mul_one]
      have e1 := ih n (i + 1) b (by omega) (by omega) hb
      by_cases c : se e i = unt so
      · rw [if_pos c, e1]
        simp [whP, c]
      · rw [if_neg c]
        by_cases c2 : se e i = nI (shn0 kk f (apt h i))
        · rw [if_pos c2, e1]
          simp [whP, c2]
        · rw [if_neg c2, ih n (i + 1) (b * 0) (by omega) (by omega) (by omega)]
          simp [whP, c, c2]
  have := key len FU 0 1 (by omega) (FU_gt (by omega)) (by omega)
  rw [this]
  simp
theorem s_kinds (T : SG ρ x q) (S : SF ρ x q sf se sk sm e) (he : e < 8) (hs : so ≤ 2) (x3 : sf e 3 = nI so) (x4 : sf e 4 = nI len) (h3 : sk 3 e = nI so) (h4 : sk 4 e = nI len) (hE : ∀ j, j < 100 → se e j = sm (100 * e + j)) (hl : len ≤ 24) {f h : Nat} (hf : f < 10) (hh : h < 24) (v4 : Int32) : ∃ V, V < 256 ∧ fX2_kindsThatShine ρ (x + 20 + 2 * e) (nI f) (nI h) = some (nI V) ∧ fX10_whatWas_71 ρ FU q (nI e) (nI f) (nI h) v4 (nI 0) (nI 0) = if v4 = nI 0 then some (nI V) else some (nI (bc V)) := by
  have key : ∀ k n m i a, i + k = 8 → k < n → k < m → a < 2 ^ i → ∃ V, V < 256 ∧ fX2_kindsThatShine_5 ρ n (x + 20 + 2 * e) (nI f) (nI h) (nI a) (nI i) = some (nI V) ∧ fX10_whatWas_71 ρ m q (nI e) (nI f) (nI h) v4 (nI a) (nI i) = if v4 = nI 0 then some (nI V) else some (nI (bc V)) := by
    intro k
    induction k with
    | zero =>
      intro n m i a hi hn hm
      obtain ⟨n, rfl⟩ : ∃ p0, n = p0 + 1 := ⟨n - 1, by omega⟩
      obtain ⟨m, rfl⟩ : ∃ p0, m = p0 + 1 := ⟨m - 1, by omega⟩
      obtain rfl : i = 8 := by omega
      rw [fX2_kindsThatShine_5, fX10_whatWas_71]
      intro ha
      refine ⟨a, ha, rfl, ?_⟩
      simp (disch := omega) only [Option.bind_some, fa_lit, nI_add, pk_mul, nI_leI, nI_ltI, nI_eq, nb_0, nb_1, if_true, if_false, cle (show 8 ≤ 8 by omega), m_bits ρ (show a < 256 from ha)]
    | succ k ih =>
      intro n m i a hi hn hm
      obtain ⟨n, rfl⟩ : ∃ p0, n = p0 + 1 := ⟨n - 1, by omega⟩
      obtain ⟨m, rfl⟩ : ∃ p0, m = p0 + 1 := ⟨m - 1, by omega⟩
      have hlt : i < 8 := by omega
      rw [fX2_kindsThatShine_5, fX10_whatWas_71]
      intro ha
      simp (disch := omega) only [Option.bind_some, fa_lit, nI_add, pk_mul, nI_leI, nI_ltI, nI_eq, nb_0, nb_1, if_true, if_false, cnle hlt, x_isShine S hs x3 x4 hl hlt hf hh, fX2_kindsThatShine_30, m_isShine T S he hs h3 h4 hE hl hlt hf hh, or_set i hlt a ha]
      by_cases c : allT (whP se e so i f h) len 0 = true
      · rw [if_pos c, if_pos c, if_neg n10b]
        exact ih n m (i + 1) (a + 2 ^ i) (by omega) (by omega) (by omega) (by rw [Nat.pow_succ]; omega)
      · rw [if_neg c, if_neg c, if_pos rfl]
        exact ih n m (i + 1) a (by omega) (by omega) (by omega) (by rw [Nat.pow_succ]; omega)
  exact key 8 FU FU 0 0 (by omega) (FU_gt (by omega)) (FU_gt (by omega)) (by decide)
end SH
theorem x_fig_in (ρ : Rho) {f : Nat} (h : f < 10) : fX1_isFigure ρ (nI f) = some (nI 1) := by
  unfold fX1_isFigure
  rw [if_neg (nI_pos (by omega)), if_neg (show ¬ (9 : Int32) < nI f from nI_nlt (a := 9) (by omega) (by omega))]
  rfl
theorem x_fig_out (ρ : Rho) {v : Int32} (h : v < nI 0 ∨ nI 9 < v) : fX1_isFigure ρ v = some (nI 0) := by
  unfold fX1_isFigure
  by_cases c : v < 0
  · rw [if_pos c]; rfl
  · rw [if_neg c, if_pos (show (9 : Int32) < v from h.resolve_left c)]; rfl
theorem sim_whatWas : Sim_whatWas Rel := by
  intro ρ z x q o a1 a2 a3 a4 hR hf
  obtain ⟨r, B, sf, se, sk, sm, ⟨⟨X0, X1⟩, ⟨M0, M1⟩, F, G, bt, ok⟩, T, S, sh⟩ := hR.s
  refine rr hR ?_
  unfold fX9_whatWas fX10_whatWas
  -- what the call asks of its own numbers, the shelf aside
  rcases or_assoc.mpr (rng a2 (lo := 0) (hi := 9) (by omega) (by omega)) with c2 | ⟨f, -, hf, rfl⟩
  · refine ⟨-1, ?_, ?_⟩
    · rcases or_assoc.mpr (rng a1 (lo := 0) (hi := 7) (by omega) (by omega)) with d | ⟨e, -, he, rfl⟩
      · rw [x_shelf_out ρ d, Option.bind_some, if_pos nI_0]
      · rw [x_shelf_in ρ (show e < 8 by omega), Option.bind_some, if_neg n10, x_fig_out ρ c2, Option.bind_some, if_pos nI_0]
    · rw [show fX10_isIn ρ a2 0 9 = some (nI 0) from m_isIn_out ρ c2, Option.bind_some, if_pos nI_0]
  have i2 : fX10_isIn ρ (nI f) 0 9 = some (nI 1) := m_isIn_in ρ (lo := 0) (hi := 9) (by omega) hf (by omega)
  rcases or_assoc.mpr (rng a3 (lo := 0) (hi := 23) (by omega) (by omega)) with c3 | ⟨h, -, hh, rfl⟩
  · refine ⟨-1, ?_, ?_⟩
    · rcases or_assoc.mpr (rng a1 (lo := 0) (hi := 7) (by omega) (by omega)) with d | ⟨e, -, he, rfl⟩
      · rw [x_shelf_out ρ d, Option.bind_some, if_pos nI_0]
      · rw [x_shelf_in ρ (show e < 8 by omega), Option.bind_some, if_neg n10, x_fig_in ρ (show f < 10 by omega), Option.bind_some, if_neg n10, x_hour_out ρ c3, Option.bind_some, if_pos nI_0]
    · rw [i2, Option.bind_some, if_neg n10, m_hour_out ρ c3, Option.bind_some, if_pos nI_0]
  rcases or_assoc.mpr (rng a4 (lo := 0) (hi := 1) (by omega) (by omega)) with c4 | ⟨p, -, hp, rfl⟩
  · refine ⟨-1, ?_, ?_⟩
    · rcases or_assoc.mpr (rng a1 (lo := 0) (hi := 7) (by omega) (by omega)) with d | ⟨e, -, he, rfl⟩
      · rw [x_shelf_out ρ d, Option.bind_some, if_pos nI_0]
      · rw [x_shelf_in ρ (show e < 8 by omega), Option.bind_some, if_neg n10, x_fig_in ρ (show f < 10 by omega), Option.bind_some, if_neg n10, x_hour_in ρ (show h < 24 by omega), Option.bind_some, if_neg n10, x_z1_out ρ c4, Option.bind_some, if_pos nI_0]
    · rw [i2, Option.bind_some, if_neg n10, m_hour_in ρ (show h < 24 by omega), Option.bind_some, if_neg n10, show fX10_isIn ρ a4 0 1 = some (nI 0) from m_isIn_out ρ c4, Option.bind_some, if_pos nI_0]
  have i4 : fX10_isIn ρ (nI p) 0 1 = some (nI 1) := m_z1_in ρ hp
  rcases or_assoc.mpr (rng a1 (lo := 0) (hi := 7) (by omega) (by omega)) with d | ⟨e, -, he, rfl⟩
  · refine ⟨-1, ?_, ?_⟩
    · rw [x_shelf_out ρ d, Option.bind_some, if_pos nI_0]
    · simp only [Option.bind_some, n10, if_false, i2, m_hour_in ρ (show h < 24 by omega), i4, M0, m_wrR_out ρ q (-1) d, fX10_whatWas_57, show ¬ ((-1 : Int32) = 0) by decide]
  have he : e < 8 := by omega
  have Se := S e he
  obtain ⟨c, hc, c1, c2⟩ := sh_c sh he
  simp only [Option.bind_some, n10, if_false, x_shelf_in ρ he, x_fig_in ρ (show f < 10 by omega), x_hour_in ρ (show h < 24 by omega), x_z1_in ρ hp, T.1, Se.1.1, Se.1.2.1, x_refR Se hc c1, i2, m_hour_in ρ (show h < 24 by omega), i4, M0, m_wrR T Se he hc c2]
  rcases (show c = 0 ∨ c = 1 ∨ c = 2 by omega) with rfl | rfl | rfl
  · rw [show rvR 0 = -11 from rfl, if_neg (show ¬ (0 : Int32) ≤ -11 by decide), if_neg (show ¬ (-11 : Int32) = 0 by decide), fX10_whatWas_57, if_neg (show ¬ (-11 : Int32) = 0 by decide)]
    exact ⟨_, rfl, rfl⟩
  · rw [show rvR 1 = -12 from rfl, if_neg (show ¬ (0 : Int32) ≤ -12 by decide), if_neg (show ¬ (-12 : Int32) = 0 by decide), fX10_whatWas_57, if_neg (show ¬ (-12 : Int32) = 0 by decide)]
    exact ⟨_, rfl, rfl⟩
  obtain ⟨so, len, ⟨hso, hlen⟩, x3, x4, k3, k4, hE, -⟩ := sh_r sh he c1
  rw [rvR2, if_pos (show (0 : Int32) ≤ 0 by decide), if_pos (show (0 : Int32) = 0 from rfl)]
  simp only [Option.bind_some, n10, if_false, Se.1.2.2.1.2.2.2.2, x4, T.2.2.2.2.2.1, Se.2.1.2.2.2.2, k4]
  by_cases c5 : len ≤ 24
  · obtain ⟨V, v0, v1, v2⟩ := s_kinds T Se he hso x3 x4 k3 k4 hE c5 (show f < 10 by omega) (show h < 24 by omega) (nI p)
    rw [if_pos (show nI len ≤ (24 : Int32) from nI_le (b := 24) c5 (by omega)), if_pos (show nI len ≤ (24 : Int32) from nI_le (b := 24) c5 (by omega)), v1, Option.bind_some, fX10_whatWas_57, if_pos rfl, fa_lit 0, v2, x_bits ρ v0]
    rcases (show p = 0 ∨ p = 1 by omega) with rfl | rfl
    · exact ⟨nI V, by rw [if_pos rfl], by rw [if_pos rfl]⟩
    · exact ⟨nI (bc V), by rw [if_neg n10b, Option.bind_some], by rw [if_neg n10b]⟩
  · rw [if_neg (show ¬ nI len ≤ (24 : Int32) from nI_ge (a := 24) (by omega) (by omega)), if_neg (show ¬ nI len ≤ (24 : Int32) from nI_ge (a := 24) (by omega) (by omega)), fX10_whatWas_57, if_neg (show ¬ (-13 : Int32) = 0 by decide)]
    exact ⟨_, rfl, rfl⟩
