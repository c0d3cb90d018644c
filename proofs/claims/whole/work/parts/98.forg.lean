/-! PURE: forged. -/
section FG
variable {ρ : Rho} {x q e len B : Nat} {r : Nat → Nat} {sf se sk : Nat → Nat → Int32} {sm : Nat → Int32}
def fgP (se : Nat → Nat → Int32) (r : Nat → Nat) (e h i : Nat) : Bool := decide (se e i = nI (mvN r ((h + i) % 24)))
theorem x_forgedFrom (F : HouseF ρ (x + 1) r B) (bt : BitsR r B) (ok : OKr r) (S : SF ρ x q sf se sk sm e) (h4 : sf e 4 = nI len) (hl : len ≤ 100) {h : Nat} (hh : h < 24) : fX3_forgedPlaceFrom ρ (x + 1) (x + 20 + 2 * e) (nI h) = some (if fst0 (fgP se r e h) len 0 = len then -4 else nI (fst0 (fgP se r e h) len 0)) := by
  have key : ∀ k n i, i + k = len → k < n → fX3_forgedPlaceFrom_2 ρ n (x + 1) (x + 20 + 2 * e) (nI h) (nI i) = some (if fst0 (fgP se r e h) k i = len then -4 else nI (fst0 (fgP se r e h) k i)) := by
    intro k
    induction k with
    | zero =>
      intro n i hi hn
      obtain ⟨n, rfl⟩ : ∃ p0, n = p0 + 1 := ⟨n - 1, by omega⟩
      rw [fX3_forgedPlaceFrom_2, fst0, S.1.2.2.1.2.2.2.2, h4, Option.bind_some, if_pos (nI_le (by omega) (by omega)), if_pos (by omega)]
    | succ k ih =>
      intro n i hi hn
      obtain ⟨n, rfl⟩ : ∃ p0, n = p0 + 1 := ⟨n - 1, by omega⟩
      have hlt : i < len := by omega
      rw [fX3_forgedPlaceFrom_2, fst0]
      simp (disch := omega) only [Option.bind_some, fa_lit, nI_add, pk_mul, nI_leI, nI_ltI, nI_eq, nb_0, nb_1, if_true, if_false, S.1.2.2.1.2.2.2.2, h4, cnle hlt, S.1.2.2.2.1, S.1.2.2.2.2 i (by omega), F.1.1, pk_rem, x_movingAt F bt ok (show (h + i) % 24 < 24 by omega)]
      by_cases c : se e i = nI (mvN r ((h + i) % 24))
      · rw [if_pos c, ih n (i + 1) (by omega) (by omega), if_pos (show fgP se r e h i = true from decide_eq_true c)]
        rfl
      · rw [if_neg c, if_neg (show ¬ fgP se r e h i = true from fun q => c (of_decide_eq_true q)), if_neg (by omega)]
  exact key len FU 0 (by omega) (FU_gt (by omega))
theorem m_forgedIn (M1 : gR ρ 3 q 0 = some (x + 37)) (G : ArrF ρ (x + 37) r) (ok : OKr r) (T : SG ρ x q) (S : SF ρ x q sf se sk sm e) (h4 : sk 4 e = nI len) (hE : ∀ j, j < 100 → se e j = sm (100 * e + j)) (hl : len ≤ 100) {h : Nat} (hh : h < 24) (k18 : Nat → Int32 → Int32 → Int32 → Option Int32) (v3 : Int32) : fX10_forged_28 ρ k18 FU q (nI e) v3 (nI h) (nI 0) = fX10_forged_75 ρ k18 q (nI e) v3 (nI h) (nI (fst0 (fgP se r e h) len 0)) := by
  have key : ∀ k n i, i + k = len → k < n → fX10_forged_28 ρ k18 n q (nI e) v3 (nI h) (nI i) = fX10_forged_75 ρ k18 q (nI e) v3 (nI h) (nI (fst0 (fgP se r e h) k i)) := by
    intro k
    induction k with
    | zero =>
      intro n i hi hn
      obtain ⟨n, rfl⟩ : ∃ p0, n = p0 + 1 := ⟨n - 1, by omega⟩
      rw [fX10_forged_28, fst0, T.2.2.2.2.2.1, Option.bind_some, S.2.1.2.2.2.2, h4, Option.bind_some, if_pos (nI_le (by omega) (by omega))]
    | succ k ih =>
      intro n i hi hn
      obtain ⟨n, rfl⟩ : ∃ p0, n = p0 + 1 := ⟨n - 1, by omega⟩
      have hlt : i < len := by omega
      rw [fX10_forged_28, fst0]
      simp (disch := omega) only [Option.bind_some, fa_lit, nI_add, pk_mul, nI_leI, nI_ltI, nI_eq, nb_0, nb_1, if_true, if_false, T.2.2.2.2.2.1, S.2.1.2.2.2.2, h4, cnle hlt, T.2.2.2.2.2.2, S.2.2 i (by omega), ← hE i (by omega), M1, pk_rem, m_movesMany G ok (show (h + i) % 24 < 24 by omega)]
      by_cases c : se e i = nI (mvN r ((h + i) % 24))
      · rw [if_pos c, ih n (i + 1) (by omega) (by omega), if_pos (show fgP se r e h i = true from decide_eq_true c)]
      · rw [if_neg c, if_neg (show ¬ fgP se r e h i = true from fun q => c (of_decide_eq_true q))]
  exact key len FU 0 (by omega) (FU_gt (by omega))
theorem s_forged (F : HouseF ρ (x + 1) r B) (bt : BitsR r B) (ok : OKr r) (M1 : gR ρ 3 q 0 = some (x + 37)) (G : ArrF ρ (x + 37) r) (T : SG ρ x q) (S : SF ρ x q sf se sk sm e) (x4 : sf e 4 = nI len) (h4 : sk 4 e = nI len) (hE : ∀ j, j < 100 → se e j = sm (100 * e + j)) (hl : len ≤ 100) : ∃ V, fX3_forgedPlace ρ (x + 1) (x + 20 + 2 * e) = some V ∧ fX10_forged_18 ρ FU q (nI e) (nI 0) (nI 0) = some V := by
  have full : ∀ k m i, i + k = 24 → k < m → fX10_forged_18 ρ m q (nI e) (nI len) (nI i) = some (-4) := by
    intro k
    induction k with
    | zero =>
      intro m i hi hm
      obtain ⟨m, rfl⟩ : ∃ p0, m = p0 + 1 := ⟨m - 1, by omega⟩
      obtain rfl : i = 24 := by omega
      rw [fX10_forged_18, if_pos (show (24 : Int32) ≤ nI 24 by decide), T.2.2.2.2.2.1, Option.bind_some, S.2.1.2.2.2.2, h4, Option.bind_some, if_pos rfl]
    | succ k ih =>
      intro m i hi hm
      obtain ⟨m, rfl⟩ : ∃ p0, m = p0 + 1 := ⟨m - 1, by omega⟩
      have hlt : i < 24 := by omega
      have b := (fst0_le (fgP se r e i) len 0).2
      rw [fX10_forged_18, if_neg (show ¬ (24 : Int32) ≤ nI i from nI_ge (b := 24) hlt (by omega)), fa_lit 0, m_forgedIn M1 G ok T S h4 hE hl hlt, fX10_forged_75, fX10_most]
      by_cases c : fst0 (fgP se r e i) len 0 = len
      · rw [c, if_pos (nI_le (Nat.le_refl _) (by omega)), Option.bind_some, nI_1]
        exact ih m (i + 1) (by omega) (by omega)
      · rw [if_neg (nI_ge (by omega) (by omega)), Option.bind_some, nI_1]
        exact ih m (i + 1) (by omega) (by omega)
  have key : ∀ k n m i a, i + k = 24 → k < n → k < m → (a < len ∨ (i = 0 ∧ a = 0)) → ∃ V, fX3_forgedPlace_4 ρ n (x + 1) (x + 20 + 2 * e) (nI a) (nI i) = some V ∧ fX10_forged_18 ρ m q (nI e) (nI a) (nI i) = some V := by
    intro k
    induction k with
    | zero =>
      intro n m i a hi hn hm
      obtain ⟨n, rfl⟩ : ∃ p0, n = p0 + 1 := ⟨n - 1, by omega⟩
      obtain ⟨m, rfl⟩ : ∃ p0, m = p0 + 1 := ⟨m - 1, by omega⟩
      obtain rfl : i = 24 := by omega
      rw [fX3_forgedPlace_4, fX10_forged_18]
      intro ha
      rw [if_pos (show (24 : Int32) ≤ nI 24 by decide), if_pos (show (24 : Int32) ≤ nI 24 by decide), T.2.2.2.2.2.1, Option.bind_some, S.2.1.2.2.2.2, h4, Option.bind_some, if_neg (show ¬ nI a = nI len from fun h => absurd ((nI_eq (a := a) (b := len) (by omega) (by omega)).mp h) (by omega))]
      exact ⟨_, rfl, rfl⟩
    | succ k ih =>
      intro n m i a hi hn hm
      obtain ⟨n, rfl⟩ : ∃ p0, n = p0 + 1 := ⟨n - 1, by omega⟩
      obtain ⟨m, rfl⟩ : ∃ p0, m = p0 + 1 := ⟨m - 1, by omega⟩
      have hlt : i < 24 := by omega
      rw [fX3_forgedPlace_4, fX10_forged_18]
      intro ha
      have b := (fst0_le (fgP se r e i) len 0).2
      have ha' : a ≤ len := by omega
      rw [if_neg (show ¬ (24 : Int32) ≤ nI i from nI_ge (b := 24) hlt (by omega)), if_neg (show ¬ (24 : Int32) ≤ nI i from nI_ge (b := 24) hlt (by omega)), x_forgedFrom F bt ok S x4 hl hlt, Option.bind_some, fa_lit 0, m_forgedIn M1 G ok T S h4 hE hl hlt, fX10_forged_75, fX10_most]
      by_cases c : fst0 (fgP se r e i) len 0 = len
      · rw [if_pos c, if_pos rfl, c, if_pos (nI_le ha' (by omega)), Option.bind_some, nI_1]
        exact ⟨_, rfl, full k m (i + 1) (by omega) (by omega)⟩
      · generalize fst0 (fgP se r e i) len 0 = y at b c
        have hy : ¬ nI y = -4 := fun h => by
          have := congrArg Int32.toInt h
          rw [nI_toInt (by omega), show (-4 : Int32).toInt = -4 from by decide] at this
          omega
        rw [if_neg c, if_neg hy]
        by_cases d : a < y
        · rw [if_pos (nI_lt d (by omega)), if_pos (nI_le (by omega) (by omega)), Option.bind_some, nI_1]
          exact ih n m (i + 1) y (by omega) (by omega) (by omega) (Or.inl (by omega))
        · have e2 : (if nI a ≤ nI y then some (nI y) else some (nI a)) = some (nI a) := by
            by_cases g : a = y
            · rw [g, if_pos (nI_le (Nat.le_refl _) (by omega))]
            · rw [if_neg (nI_ge (by omega) (by omega))]
          rw [if_neg (nI_nlt (by omega) (by omega)), e2, Option.bind_some, nI_1]
          exact ih n m (i + 1) a (by omega) (by omega) (by omega) (Or.inl (by omega))
  exact key 24 FU FU 0 0 (by omega) (FU_gt (by omega)) (FU_gt (by omega)) (Or.inr ⟨rfl, rfl⟩)
end FG
theorem sim_forged : Sim_forged Rel := by
  intro ρ z x q o a1 hR hf
  obtain ⟨r, B, sf, se, sk, sm, ⟨⟨X0, X1⟩, ⟨M0, M1⟩, F, G, bt, ok⟩, T, S, sh⟩ := hR.s
  refine rr hR ?_
  unfold fX9_forged fX10_forged
  rcases or_assoc.mpr (rng a1 (lo := 0) (hi := 7) (by omega) (by omega)) with d | ⟨e, -, he, rfl⟩
  · refine ⟨-1, ?_, ?_⟩
    · rw [x_shelf_out ρ d, Option.bind_some, if_pos nI_0]
    · simp only [Option.bind_some, n10, if_false, M0, m_wrR_out ρ q (-1) d, show ¬ ((-1 : Int32) = 0) by decide]
  have he : e < 8 := by omega
  have Se := S e he
  obtain ⟨c, hc, c1, c2⟩ := sh_c sh he
  simp only [Option.bind_some, n10, if_false, x_shelf_in ρ he, T.1, X1, Se.1.1, Se.1.2.1, x_refR Se hc c1, M0, m_wrR T Se he hc c2]
  rcases (show c = 0 ∨ c = 1 ∨ c = 2 by omega) with rfl | rfl | rfl
  · rw [show rvR 0 = -11 from rfl, if_neg (show ¬ (0 : Int32) ≤ -11 by decide), if_neg (show ¬ (-11 : Int32) = 0 by decide)]
    exact ⟨_, rfl, rfl⟩
  · rw [show rvR 1 = -12 from rfl, if_neg (show ¬ (0 : Int32) ≤ -12 by decide), if_neg (show ¬ (-12 : Int32) = 0 by decide)]
    exact ⟨_, rfl, rfl⟩
  obtain ⟨so, len, ⟨hso, hlen⟩, x3, x4, k3, k4, hE, -⟩ := sh_r sh he c1
  obtain ⟨V, v1, v2⟩ := s_forged F bt ok M1 G T Se x4 k4 hE hlen
  rw [rvR2, if_pos (show (0 : Int32) ≤ 0 by decide), if_pos (show (0 : Int32) = 0 from rfl), v1]
  exact ⟨V, rfl, v2⟩
