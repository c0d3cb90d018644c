/-! PURE: more calls that only read. -/
section RD
variable {ρ : Rho} {x q B : Nat} {r : Nat → Nat}
theorem s_best (F : HouseF ρ (x + 1) r B) (ok : OKr r) (M1 : gR ρ 3 q 0 = some (x + 37)) (G : ArrF ρ (x + 37) r) {w : Nat} (hw : w < r 0) : ∃ V, fX8_seemingHour_19 ρ FU (x + 1) (nI w) (nI 0) (nI 1) = some V ∧ fX10_bestHour_39 ρ FU q (nI w) (nI (r (9 + 5 * w))) (nI 0) (-nI 1) (nI 0) = some V := by
  obtain ⟨g1, g2, g3, g4, g5⟩ := ok.2.2 w hw
  have hs : ∀ h, h < 24 → fX10_seemsBy ρ (nI (r (9 + 5 * w))) (nI (r (9 + 5 * w + 1))) (nI (apR r w h)) (nI h) = some (nI (usem r w h)) := fun h hh => lM_seemsBy _ g1 _ g2 _ (ok.ap hw hh) _ hh
  have G1 := G.2 w hw 1 (by omega)
  have key : ∀ k n m i v, i + k = 24 → k < n → k < m → v < 24 → ∃ V, fX8_seemingHour_19 ρ n (x + 1) (nI w) (nI v) (nI i) = some V ∧ fX10_bestHour_39 ρ m q (nI w) (nI (r (9 + 5 * w))) (nI v) (nI (usem r w v)) (nI i) = some V := by
    intro k
    induction k with
    | zero =>
      intro n m i v hi hn hm
      obtain ⟨n, rfl⟩ : ∃ p0, n = p0 + 1 := ⟨n - 1, by omega⟩
      obtain ⟨m, rfl⟩ : ∃ p0, m = p0 + 1 := ⟨m - 1, by omega⟩
      obtain rfl : i = 24 := by omega
      rw [fX8_seemingHour_19, fX10_bestHour_39]
      exact fun _ => ⟨_, rfl, rfl⟩
    | succ k ih =>
      intro n m i v hi hn hm
      obtain ⟨n, rfl⟩ : ∃ p0, n = p0 + 1 := ⟨n - 1, by omega⟩
      obtain ⟨m, rfl⟩ : ∃ p0, m = p0 + 1 := ⟨m - 1, by omega⟩
      have hlt : i < 24 := by omega
      rw [fX8_seemingHour_19, fX10_bestHour_39]
      intro hv
      have b1 := ok.sem hw hlt
      have b2 := ok.sem hw hv
      simp (disch := omega) only [Option.bind_some, fa_lit, nI_add, pk_mul, nI_leI, nI_ltI, nI_eq, nb_0, nb_1, if_true, if_false, cnle hlt, F.1.1, x_unstopped F ok hw hlt, x_unstopped F ok hw hv, M1, m_of, G1, m_farAt G ok hw hlt, hs i hlt, fX8_seemingHour_42, fX10_bestHour_91]
      by_cases c : usem r w v < usem r w i
      · rw [if_neg (show ¬ usem r w i ≤ usem r w v by omega), if_pos c]
        exact ih n m (i + 1) i (by omega) (by omega) (by omega) hlt
      · rw [if_pos (show usem r w i ≤ usem r w v by omega), if_neg c]
        exact ih n m (i + 1) v (by omega) (by omega) (by omega) hv
  obtain ⟨V, h1, h2⟩ := key 23 FU 99999 1 0 (by omega) (FU_gt (by omega)) (by omega) (by omega)
  refine ⟨V, h1, ?_⟩
  rw [show FU = 99999 + 1 from rfl, fX10_bestHour_39]
  have b1 := ok.sem hw (show 0 < 24 by omega)
  have b2 : (-nI 1 < nI (usem r w 0)) = True := by
    apply eq_true
    rw [Int32.lt_iff_toInt_lt, nI_toInt (by omega), show (-nI 1 : Int32).toInt = -1 from by decide]
    omega
  simp (disch := omega) only [Option.bind_some, fa_lit, nI_add, pk_mul, nI_leI, nI_ltI, nI_eq, nb_0, nb_1, if_true, if_false, cnle (show 0 < 24 by omega), M1, m_of, G1, m_farAt G ok hw (show 0 < 24 by omega), hs 0 (by omega), fX10_bestHour_91, b2]
  exact h2
def Adr (r : Nat → Nat) (v : Int32) : Prop := v = -nI 4 ∨ ∃ j, j < r 0 ∧ v = nI j
theorem s_addr (F : HouseF ρ (x + 1) r B) (bt : BitsR r B) (ok : OKr r) (M1 : gR ρ 3 q 0 = some (x + 37)) (G : ArrF ρ (x + 37) r) {h : Nat} (hh : h < 24) : ∃ V, Adr r V ∧ fX8_addressed ρ (x + 1) (nI h) = some V ∧ fX10_addressed ρ q (nI h) = some V := by
  have h8 := ok.1.1
  have key : ∀ k n m i v, i + k = r 0 → k < n → k < m → Adr r v → ∃ V, Adr r V ∧ fX8_addressed_5 ρ n (x + 1) (nI h) v (nI i) = some V ∧ fX10_addressed_5 ρ m q (nI h) v (nI i) = some V := by
    intro k
    induction k with
    | zero =>
      intro n m i v hi hn hm
      obtain ⟨n, rfl⟩ : ∃ p0, n = p0 + 1 := ⟨n - 1, by omega⟩
      obtain ⟨m, rfl⟩ : ∃ p0, m = p0 + 1 := ⟨m - 1, by omega⟩
      obtain rfl : i = r 0 := by omega
      rw [fX8_addressed_5, fX10_addressed_5]
      intro hv
      simp (disch := omega) only [Option.bind_some, fa_lit, nI_add, pk_mul, nI_leI, nI_ltI, nI_eq, nb_0, nb_1, if_true, if_false, F.2.1.1, M1, G.1 0 (by omega), cle (Nat.le_refl (r 0))]
      exact ⟨v, hv, rfl, rfl⟩
    | succ k ih =>
      intro n m i v hi hn hm
      obtain ⟨n, rfl⟩ : ∃ p0, n = p0 + 1 := ⟨n - 1, by omega⟩
      obtain ⟨m, rfl⟩ : ∃ p0, m = p0 + 1 := ⟨m - 1, by omega⟩
      have hlt : i < r 0 := by omega
      rw [fX8_addressed_5, fX10_addressed_5]
      intro hv
      have b1 : sem r i h ≤ 20 := by
        unfold sem
        split
        · exact ok.sem hlt hh
        · omega
      have e1 := ih n m (i + 1) v (by omega) (by omega) (by omega) hv
      have e2 := ih n m (i + 1) (nI i) (by omega) (by omega) (by omega) (Or.inr ⟨i, hlt, rfl⟩)
      simp (disch := omega) only [Option.bind_some, fa_lit, nI_add, pk_mul, nI_leI, nI_ltI, nI_eq, nb_0, nb_1, if_true, if_false, F.2.1.1, M1, G.1 0 (by omega), cnle hlt, F.1.1, x_seemingOf F bt ok hlt hh, m_seems G ok hlt hh, fX8_addressed_38, fX8_addressed_36, fX10_addressed_90, fX10_addressed_92]
      by_cases c : sem r i h = 0
      · rw [if_pos (show sem r i h ≤ 0 by omega), if_pos c]
        exact e1
      rw [if_neg (show ¬ sem r i h ≤ 0 by omega), if_neg c]
      rcases hv with rfl | ⟨j, hj, rfl⟩
      · rw [if_pos (show -nI 4 < nI 0 by decide), if_neg (show ¬ nI 0 ≤ -nI 4 by decide), fX10_addressed_51, if_pos (nI_ltI (a := 0) (by omega) (by omega) |>.mpr (by omega)), fX10_addressed_90, fX10_addressed_92, nI_1]
        exact e2
      · have b2 : sem r j h ≤ 20 := by
          unfold sem
          split
          · exact ok.sem hj hh
          · omega
        obtain ⟨g1, g2, g3, g4, g5⟩ := ok.2.2 i hlt
        obtain ⟨q1, q2, q3, q4, q5⟩ := ok.2.2 j hj
        rw [if_neg (nI_nlt (Nat.zero_le j) (by omega)), if_pos (nI_le (Nat.zero_le j) (by omega))]
        unfold fX8_isPreferred
        simp (disch := omega) only [Option.bind_some, fa_lit, nI_add, pk_mul, nI_leI, nI_ltI, nI_eq, nb_0, nb_1, if_true, if_false, F.1.1, x_seemingOf F bt ok hlt hh, x_seemingOf F bt ok hj hh, m_seems G ok hj hh, fX10_addressed_51, fX10_addressed_90, fX10_addressed_92, M1, m_of, F.1.2.2.1, (F.2.2.1 i hlt).2.1, (F.2.2.1 j hj).2.1, G.2 i hlt 1 (by omega), G.2 j hj 1 (by omega)]
        by_cases c1 : sem r j h < sem r i h
        · rw [if_pos c1, if_pos c1]
          simp (disch := omega) only [Option.bind_some, fa_lit, nI_add, pk_mul, nI_leI, nI_ltI, nI_eq, nb_0, nb_1, if_true, if_false, c10]
          exact e2
        rw [if_neg c1, if_neg c1]
        by_cases c2 : sem r i h = sem r j h
        · rw [if_pos c2, if_pos c2]
          by_cases c3 : r (9 + 5 * i + 1) ≤ r (9 + 5 * j + 1)
          · rw [if_pos c3, if_pos c3]
            simp (disch := omega) only [Option.bind_some, fa_lit, nI_add, pk_mul, nI_leI, nI_ltI, nI_eq, nb_0, nb_1, if_true, if_false, c00]
            exact e1
          · rw [if_neg c3, if_neg c3]
            simp (disch := omega) only [Option.bind_some, fa_lit, nI_add, pk_mul, nI_leI, nI_ltI, nI_eq, nb_0, nb_1, if_true, if_false, c10]
            exact e2
        · rw [if_neg c2, if_neg c2]
          simp (disch := omega) only [Option.bind_some, fa_lit, nI_add, pk_mul, nI_leI, nI_ltI, nI_eq, nb_0, nb_1, if_true, if_false, c00]
          exact e1
  exact key (r 0) FU FU 0 (-nI 4) (by omega) (FU_gt (by omega)) (FU_gt (by omega)) (Or.inl rfl)
theorem s_days (F : HouseF ρ (x + 1) r B) (bt : BitsR r B) (ok : OKr r) (M0 : ckO ρ 3 q = some ()) (M1 : gR ρ 3 q 0 = some (x + 37)) (G : ArrF ρ (x + 37) r) (v : Int32) (hv : fX8_addressed ρ (x + 1) (nI (r 1)) = some v ∧ fX10_addressed ρ q (nI (r 1)) = some v) : ∃ V, fX8_daysToAnother_18 ρ FU (x + 1) v (nI 1) = some V ∧ fX10_suitor_34 ρ FU q v (nI 0) = some V := by
  have hh := ok.1.2.1
  have key : ∀ k n m i, i + k = 24 → k < n → k < m → ∃ V, fX8_daysToAnother_18 ρ n (x + 1) v (nI i) = some V ∧ fX10_suitor_34 ρ m q v (nI i) = some V := by
    intro k
    induction k with
    | zero =>
      intro n m i hi hn hm
      obtain ⟨n, rfl⟩ : ∃ p0, n = p0 + 1 := ⟨n - 1, by omega⟩
      obtain ⟨m, rfl⟩ : ∃ p0, m = p0 + 1 := ⟨m - 1, by omega⟩
      obtain rfl : i = 24 := by omega
      rw [fX8_daysToAnother_18, fX10_suitor_34]
      exact ⟨_, rfl, rfl⟩
    | succ k ih =>
      intro n m i hi hn hm
      obtain ⟨n, rfl⟩ : ∃ p0, n = p0 + 1 := ⟨n - 1, by omega⟩
      obtain ⟨m, rfl⟩ : ∃ p0, m = p0 + 1 := ⟨m - 1, by omega⟩
      have hlt : i < 24 := by omega
      rw [fX8_daysToAnother_18, fX10_suitor_34]
      obtain ⟨V, -, h1, h2⟩ := s_addr F bt ok M1 G (h := (r 1 + i) % 24) (by omega)
      simp (disch := omega) only [Option.bind_some, fa_lit, nI_add, pk_mul, nI_leI, nI_ltI, nI_eq, nb_0, nb_1, if_true, if_false, F.2.1.2.2.1, M1, M0, G.1 1 (by omega), cnle hlt, pk_rem, h1, h2, fX8_daysToAnother_49, fX10_suitor_70]
      split
      · exact ih n m (i + 1) (by omega) (by omega) (by omega)
      · split
        · exact ih n m (i + 1) (by omega) (by omega) (by omega)
        · exact ⟨_, rfl, rfl⟩
  obtain ⟨V, h1, h2⟩ := key 23 FU 99999 1 (by omega) (FU_gt (by omega)) (by omega)
  refine ⟨V, h1, ?_⟩
  rw [show FU = 99999 + 1 from rfl, fX10_suitor_34]
  simp (disch := omega) only [Option.bind_some, fa_lit, nI_add, pk_mul, nI_leI, nI_ltI, nI_eq, nb_0, nb_1, if_true, if_false, M1, M0, G.1 1 (by omega), cnle (show 0 < 24 by omega), pk_rem, Nat.add_zero, Nat.mod_eq_of_lt hh, hv.2, fX10_suitor_70]
  split <;> exact h2
theorem s_areTwins (F : HouseF ρ (x + 1) r B) (bt : BitsR r B) (ok : OKr r) (M1 : gR ρ 3 q 0 = some (x + 37)) (G : ArrF ρ (x + 37) r) {v w : Nat} (hv : v < r 0) (hw : w < r 0) : ∃ t, t ≤ 1 ∧ fX8_areTwins ρ (x + 1) (nI v) (nI w) = some (nI t) ∧ fX10_areTwins ρ q (nI v) (nI w) = some (nI t) := by
  have key : ∀ k n m i, i + k = 24 → k < n → k < m → ∃ t, t ≤ 1 ∧ fX8_areTwins_2 ρ n (x + 1) (nI v) (nI w) (nI i) = some (nI t) ∧ fX10_areTwins_2 ρ m q (nI v) (nI w) (nI i) = some (nI t) := by
    intro k
    induction k with
    | zero =>
      intro n m i hi hn hm
      obtain ⟨n, rfl⟩ : ∃ p0, n = p0 + 1 := ⟨n - 1, by omega⟩
      obtain ⟨m, rfl⟩ : ∃ p0, m = p0 + 1 := ⟨m - 1, by omega⟩
      obtain rfl : i = 24 := by omega
      rw [fX8_areTwins_2, fX10_areTwins_2]
      exact ⟨1, by omega, rfl, rfl⟩
    | succ k ih =>
      intro n m i hi hn hm
      obtain ⟨n, rfl⟩ : ∃ p0, n = p0 + 1 := ⟨n - 1, by omega⟩
      obtain ⟨m, rfl⟩ : ∃ p0, m = p0 + 1 := ⟨m - 1, by omega⟩
      have hlt : i < 24 := by omega
      rw [fX8_areTwins_2, fX10_areTwins_2]
      simp (disch := omega) only [Option.bind_some, fa_lit, nI_add, pk_mul, nI_leI, nI_ltI, nI_eq, nb_0, nb_1, if_true, if_false, F.1.1, M1, cnle hlt, x_shineOf F bt ok hv hlt, x_shineOf F bt ok hw hlt, x_isMoving F bt ok hv hlt, x_isMoving F bt ok hw hlt, m_shines G ok hv hlt, m_shines G ok hw hlt, m_moves G ok hv hlt, m_moves G ok hw hlt]
      split
      · split
        · exact ih n m (i + 1) (by omega) (by omega) (by omega)
        · exact ⟨0, by omega, rfl, rfl⟩
      · exact ⟨0, by omega, rfl, rfl⟩
  exact key 24 FU FU 0 (by omega) (FU_gt (by omega)) (FU_gt (by omega))
theorem s_pairs (F : HouseF ρ (x + 1) r B) (bt : BitsR r B) (ok : OKr r) (M0 : ckO ρ 3 q = some ()) (M1 : gR ρ 3 q 0 = some (x + 37)) (G : ArrF ρ (x + 37) r) : ∃ V, fX8_twinPairs ρ (x + 1) = some V ∧ fX10_twins_19 ρ FU q (nI 0) (nI 0) (-nI 4) (nI 0) = some V := by
  have h8 := ok.1.1
  have inner : ∀ k n m j c f v, v < r 0 → j + k = r 0 → k < n → k < m → ∀ kx km, ∃ C D, fX8_twinPairs_16 ρ kx n (x + 1) c (nI v) (nI j) = kx (x + 1) C (nI (v + 1)) ∧ fX10_twins_36 ρ km m q (nI 0) c f (nI v) (nI j) = km q (nI 0) C D (nI (v + 1)) := by
    intro k
    induction k with
    | zero =>
      intro n m j c f v hv hi hn hm kx km
      obtain ⟨n, rfl⟩ : ∃ p0, n = p0 + 1 := ⟨n - 1, by omega⟩
      obtain ⟨m, rfl⟩ : ∃ p0, m = p0 + 1 := ⟨m - 1, by omega⟩
      obtain rfl : j = r 0 := by omega
      rw [fX8_twinPairs_16, fX10_twins_36]
      simp (disch := omega) only [Option.bind_some, fa_lit, nI_add, pk_mul, nI_leI, nI_ltI, nI_eq, nb_0, nb_1, if_true, if_false, F.2.1.1, M1, G.1 0 (by omega), cle (Nat.le_refl (r 0))]
      exact ⟨c, f, rfl, rfl⟩
    | succ k ih =>
      intro n m j c f v hv hi hn hm kx km
      obtain ⟨n, rfl⟩ : ∃ p0, n = p0 + 1 := ⟨n - 1, by omega⟩
      obtain ⟨m, rfl⟩ : ∃ p0, m = p0 + 1 := ⟨m - 1, by omega⟩
      have hlt : j < r 0 := by omega
      obtain ⟨t, ht, t1, t2⟩ := s_areTwins F bt ok M1 G hv hlt
      rw [fX8_twinPairs_16, fX10_twins_36]
      simp (disch := omega) only [Option.bind_some, fa_lit, nI_add, pk_mul, nI_leI, nI_ltI, nI_eq, nb_0, nb_1, if_true, if_false, F.2.1.1, M1, M0, G.1 0 (by omega), cnle hlt, t1, t2, fX8_twinPairs_36, fX10_twins_81, fX10_twins_77]
      rcases (show t = 0 ∨ t = 1 by omega) with rfl | rfl
      · rw [if_pos rfl, if_pos rfl]
        exact ih n m (j + 1) c f v hv (by omega) (by omega) (by omega) kx km
      · rw [if_neg (by omega), if_neg (by omega)]
        split
        · exact ih n m (j + 1) _ _ v hv (by omega) (by omega) (by omega) kx km
        · exact ih n m (j + 1) _ _ v hv (by omega) (by omega) (by omega) kx km
  have key : ∀ k n m i c f, i + k = r 0 → k < n → k < m → ∃ V, fX8_twinPairs_4 ρ n (x + 1) c (nI i) = some V ∧ fX10_twins_19 ρ m q (nI 0) c f (nI i) = some V := by
    intro k
    induction k with
    | zero =>
      intro n m i c f hi hn hm
      obtain ⟨n, rfl⟩ : ∃ p0, n = p0 + 1 := ⟨n - 1, by omega⟩
      obtain ⟨m, rfl⟩ : ∃ p0, m = p0 + 1 := ⟨m - 1, by omega⟩
      obtain rfl : i = r 0 := by omega
      rw [fX8_twinPairs_4, fX10_twins_19]
      simp (disch := omega) only [Option.bind_some, fa_lit, nI_add, pk_mul, nI_leI, nI_ltI, nI_eq, nb_0, nb_1, if_true, if_false, F.2.1.1, M1, G.1 0 (by omega), cle (Nat.le_refl (r 0))]
      exact ⟨c, rfl, rfl⟩
    | succ k ih =>
      intro n m i c f hi hn hm
      obtain ⟨n, rfl⟩ : ∃ p0, n = p0 + 1 := ⟨n - 1, by omega⟩
      obtain ⟨m, rfl⟩ : ∃ p0, m = p0 + 1 := ⟨m - 1, by omega⟩
      have hlt : i < r 0 := by omega
      rw [fX8_twinPairs_4, fX10_twins_19]
      obtain ⟨C, D, e1, e2⟩ := inner (r 0 - (i + 1)) FU FU (i + 1) c f i hlt (by omega) (FU_gt (by omega)) (FU_gt (by omega)) (fX8_twinPairs_4 ρ n) (fX10_twins_19 ρ m)
      simp (disch := omega) only [Option.bind_some, fa_lit, nI_add, pk_mul, nI_leI, nI_ltI, nI_eq, nb_0, nb_1, if_true, if_false, F.2.1.1, M1, G.1 0 (by omega), cnle hlt, e1, e2]
      exact ih n m (i + 1) C D (by omega) (by omega) (by omega)
  exact key (r 0) FU FU 0 (nI 0) (-nI 4) (by omega) (FU_gt (by omega)) (FU_gt (by omega))
theorem s_first (F : HouseF ρ (x + 1) r B) (bt : BitsR r B) (ok : OKr r) (M0 : ckO ρ 3 q = some ()) (M1 : gR ρ 3 q 0 = some (x + 37)) (G : ArrF ρ (x + 37) r) : ∃ V, fX8_firstTwins ρ (x + 1) = some V ∧ fX10_twins_19 ρ FU q (nI 1) (nI 0) (-nI 4) (nI 0) = some V := by
  have h8 := ok.1.1
  -- once one pair is found, the first stays
  have inner1 : ∀ k m j c f v, v < r 0 → j + k = r 0 → k < m → 1 ≤ c → c + k < 1000 → ∀ km, ∃ C, (1 ≤ C ∧ C ≤ c + k) ∧ fX10_twins_36 ρ km m q (nI 1) (nI c) f (nI v) (nI j) = km q (nI 1) (nI C) f (nI (v + 1)) := by
    intro k
    induction k with
    | zero =>
      intro m j c f v hv hi hm h1 h2 km
      obtain ⟨m, rfl⟩ : ∃ p0, m = p0 + 1 := ⟨m - 1, by omega⟩
      obtain rfl : j = r 0 := by omega
      rw [fX10_twins_36]
      simp (disch := omega) only [Option.bind_some, fa_lit, nI_add, pk_mul, nI_leI, nI_ltI, nI_eq, nb_0, nb_1, if_true, if_false, M1, G.1 0 (by omega), cle (Nat.le_refl (r 0))]
      exact ⟨c, ⟨h1, Nat.le_refl _⟩, rfl⟩
    | succ k ih =>
      intro m j c f v hv hi hm h1 h2 km
      obtain ⟨m, rfl⟩ : ∃ p0, m = p0 + 1 := ⟨m - 1, by omega⟩
      have hlt : j < r 0 := by omega
      obtain ⟨t, ht, t1, t2⟩ := s_areTwins F bt ok M1 G hv hlt
      rw [fX10_twins_36]
      simp (disch := omega) only [Option.bind_some, fa_lit, nI_add, pk_mul, nI_leI, nI_ltI, nI_eq, nb_0, nb_1, if_true, if_false, M1, M0, G.1 0 (by omega), cnle hlt, t2, fX10_twins_81, fX10_twins_77]
      rcases (show t = 0 ∨ t = 1 by omega) with rfl | rfl
      · rw [if_pos rfl]
        obtain ⟨C, hC, e⟩ := ih m (j + 1) c f v hv (by omega) (by omega) h1 (by omega) km
        exact ⟨C, by omega, e⟩
      · rw [if_neg (by omega), if_neg (by omega)]
        obtain ⟨C, hC, e⟩ := ih m (j + 1) (c + 1) f v hv (by omega) (by omega) (by omega) (by omega) km
        exact ⟨C, by omega, e⟩
  have outer1 : ∀ k m i c f, i + k = r 0 → k < m → 1 ≤ c → c + 9 * k < 1000 → fX10_twins_19 ρ m q (nI 1) (nI c) f (nI i) = some f := by
    intro k
    induction k with
    | zero =>
      intro m i c f hi hm h1 h2
      obtain ⟨m, rfl⟩ : ∃ p0, m = p0 + 1 := ⟨m - 1, by omega⟩
      obtain rfl : i = r 0 := by omega
      rw [fX10_twins_19]
      simp (disch := omega) only [Option.bind_some, fa_lit, nI_add, pk_mul, nI_leI, nI_ltI, nI_eq, nb_0, nb_1, if_true, if_false, M1, G.1 0 (by omega), cle (Nat.le_refl (r 0))]
      rw [if_neg (by omega)]
    | succ k ih =>
      intro m i c f hi hm h1 h2
      obtain ⟨m, rfl⟩ : ∃ p0, m = p0 + 1 := ⟨m - 1, by omega⟩
      have hlt : i < r 0 := by omega
      obtain ⟨C, hC, e⟩ := inner1 (r 0 - (i + 1)) FU (i + 1) c f i hlt (by omega) (FU_gt (by omega)) h1 (by omega) (fX10_twins_19 ρ m)
      rw [fX10_twins_19]
      simp (disch := omega) only [Option.bind_some, fa_lit, nI_add, pk_mul, nI_leI, nI_ltI, nI_eq, nb_0, nb_1, if_true, if_false, M1, G.1 0 (by omega), cnle hlt, e]
      exact ih m (i + 1) C f (by omega) (by omega) (by omega) (by omega)
  have inner0 : ∀ k n m j v, v < r 0 → j + k = r 0 → k < n → k < m → ∀ kx km, (fX8_firstTwins_14 ρ kx n (x + 1) (nI v) (nI j) = kx (x + 1) (nI (v + 1)) ∧ fX10_twins_36 ρ km m q (nI 1) (nI 0) (-nI 4) (nI v) (nI j) = km q (nI 1) (nI 0) (-nI 4) (nI (v + 1))) ∨ ∃ V C, (1 ≤ C ∧ C < 20) ∧ fX8_firstTwins_14 ρ kx n (x + 1) (nI v) (nI j) = some V ∧ fX10_twins_36 ρ km m q (nI 1) (nI 0) (-nI 4) (nI v) (nI j) = km q (nI 1) (nI C) V (nI (v + 1)) := by
    intro k
    induction k with
    | zero =>
      intro n m j v hv hi hn hm kx km
      obtain ⟨n, rfl⟩ : ∃ p0, n = p0 + 1 := ⟨n - 1, by omega⟩
      obtain ⟨m, rfl⟩ : ∃ p0, m = p0 + 1 := ⟨m - 1, by omega⟩
      obtain rfl : j = r 0 := by omega
      rw [fX8_firstTwins_14, fX10_twins_36]
      simp (disch := omega) only [Option.bind_some, fa_lit, nI_add, pk_mul, nI_leI, nI_ltI, nI_eq, nb_0, nb_1, if_true, if_false, F.2.1.1, M1, G.1 0 (by omega), cle (Nat.le_refl (r 0))]
      exact Or.inl ⟨trivial, trivial⟩
    | succ k ih =>
      intro n m j v hv hi hn hm kx km
      obtain ⟨n, rfl⟩ : ∃ p0, n = p0 + 1 := ⟨n - 1, by omega⟩
      obtain ⟨m, rfl⟩ : ∃ p0, m = p0 + 1 := ⟨m - 1, by omega⟩
      have hlt : j < r 0 := by omega
      obtain ⟨t, ht, t1, t2⟩ := s_areTwins F bt ok M1 G hv hlt
      rw [fX8_firstTwins_14, fX10_twins_36]
      simp (disch := omega) only [Option.bind_some, fa_lit, nI_add, pk_mul, nI_leI, nI_ltI, nI_eq, nb_0, nb_1, if_true, if_false, F.2.1.1, M1, M0, G.1 0 (by omega), cnle hlt, t1, t2, fX10_twins_81, fX10_twins_77]
      rcases (show t = 0 ∨ t = 1 by omega) with rfl | rfl
      · rw [if_pos rfl, if_pos rfl]
        exact ih n m (j + 1) v hv (by omega) (by omega) (by omega) kx km
      · rw [if_neg (by omega), if_neg (by omega)]
        obtain ⟨C, hC, e⟩ := inner1 k m (j + 1) 1 (nI (10 * v + j)) v hv (by omega) (by omega) (by omega) (by omega) km
        exact Or.inr ⟨_, C, by omega, rfl, e⟩
  have key : ∀ k n m i, i + k = r 0 → k < n → k < m → ∃ V, fX8_firstTwins_2 ρ n (x + 1) (nI i) = some V ∧ fX10_twins_19 ρ m q (nI 1) (nI 0) (-nI 4) (nI i) = some V := by
    intro k
    induction k with
    | zero =>
      intro n m i hi hn hm
      obtain ⟨n, rfl⟩ : ∃ p0, n = p0 + 1 := ⟨n - 1, by omega⟩
      obtain ⟨m, rfl⟩ : ∃ p0, m = p0 + 1 := ⟨m - 1, by omega⟩
      obtain rfl : i = r 0 := by omega
      rw [fX8_firstTwins_2, fX10_twins_19]
      simp (disch := omega) only [Option.bind_some, fa_lit, nI_add, pk_mul, nI_leI, nI_ltI, nI_eq, nb_0, nb_1, if_true, if_false, F.2.1.1, M1, G.1 0 (by omega), cle (Nat.le_refl (r 0))]
      exact ⟨_, rfl, if_neg (by omega)⟩
    | succ k ih =>
      intro n m i hi hn hm
      obtain ⟨n, rfl⟩ : ∃ p0, n = p0 + 1 := ⟨n - 1, by omega⟩
      obtain ⟨m, rfl⟩ : ∃ p0, m = p0 + 1 := ⟨m - 1, by omega⟩
      have hlt : i < r 0 := by omega
      rw [fX8_firstTwins_2, fX10_twins_19]
      rcases inner0 (r 0 - (i + 1)) FU FU (i + 1) i hlt (by omega) (FU_gt (by omega)) (FU_gt (by omega)) (fX8_firstTwins_2 ρ n) (fX10_twins_19 ρ m) with ⟨e1, e2⟩ | ⟨V, C, hC, e1, e2⟩
      · simp (disch := omega) only [Option.bind_some, fa_lit, nI_add, pk_mul, nI_leI, nI_ltI, nI_eq, nb_0, nb_1, if_true, if_false, F.2.1.1, M1, G.1 0 (by omega), cnle hlt, e1, e2]
        exact ih n m (i + 1) (by omega) (by omega) (by omega)
      · simp (disch := omega) only [Option.bind_some, fa_lit, nI_add, pk_mul, nI_leI, nI_ltI, nI_eq, nb_0, nb_1, if_true, if_false, F.2.1.1, M1, G.1 0 (by omega), cnle hlt, e1, e2]
        exact ⟨V, rfl, outer1 k m (i + 1) C V (by omega) (by omega) (by omega) (by omega)⟩
  exact key (r 0) FU FU 0 (by omega) (FU_gt (by omega)) (FU_gt (by omega))
end RD
theorem sim_bestHour : Sim_bestHour Rel := by
  intro ρ z x q o a1 hR hf
  obtain ⟨r, B, ⟨X0, X1⟩, ⟨M0, M1⟩, F, G, bt, ok⟩ := hR.c
  refine rr hR ?_
  unfold fX9_bestHour fX10_bestHour fX8_seemingHour
  rcases or_assoc.mpr (rng0 a1 (n := r 0) (have := ok.1.1; by omega)) with c | ⟨w, hw, rfl⟩
  · (simp only [Option.bind_some, z00, if_true, n10, if_false, X1, M0, F.1.1, x_win_out F c, m_win_out M1 G ok c]; exact ⟨_, rfl, rfl⟩)
  obtain ⟨V, v1, v2⟩ := s_best F ok M1 G hw
  obtain ⟨k1, k2, k3, k4⟩ := F.2.2.1 w hw
  obtain ⟨g1, g2, g3, g4, g5⟩ := ok.2.2 w hw
  have Gk : ldI ρ (x + 37) (nI (9 + 5 * w)) = some (nI (r (9 + 5 * w))) := G.2 w hw 0 (by omega)
  simp only [Option.bind_some, n10, if_false, X1, M0, M1, F.1.1, x_win_in F ok hw, m_win_in M1 G ok hw, F.1.2.1, k1]
  rw [fa_lit 0, fa_lit 1, m_of0, Option.bind_some, Gk, Option.bind_some, show fX1_isPainted ρ = fX1_isPainted ρN from rfl, lX_isPainted _ g1, show fX10_isPainted ρ = fX10_isPainted ρN from rfl, lM_isPainted _ g1, Option.bind_some, Option.bind_some, v1, v2]
  by_cases c : pnt0 (r (9 + 5 * w)) = 0
  · rw [c]
    rw [if_pos rfl]
    exact ⟨_, rfl, rfl⟩
  · have : pnt0 (r (9 + 5 * w)) = 1 := by
      unfold pnt0 at c ⊢
      split
      · rfl
      · rename_i h
        rw [if_neg h] at c
        omega
    rw [this]
    rw [if_neg n10b]
    exact ⟨V, rfl, rfl⟩
theorem sim_suitor : Sim_suitor Rel := by
  intro ρ z x q o a1 hR hf
  obtain ⟨r, B, ⟨X0, X1⟩, ⟨M0, M1⟩, F, G, bt, ok⟩ := hR.c
  refine rr hR ?_
  unfold fX9_suitor fX10_suitor fX8_daysToAnother
  rcases or_assoc.mpr (rng a1 (lo := 0) (hi := 1) (by omega) (by omega)) with c | ⟨a, -, ha, rfl⟩
  · (simp only [Option.bind_some, z00, if_true, n10, if_false, x_z1_out ρ c, show fX10_isIn ρ a1 0 1 = some (nI 0) from m_isIn_out ρ c]; exact ⟨_, rfl, rfl⟩)
  · obtain ⟨V, v0, v1, v2⟩ := s_addr F bt ok M1 G ok.1.2.1
    obtain ⟨W, w1, w2⟩ := s_days F bt ok M0 M1 G V ⟨v1, v2⟩
    have G1 : ldI ρ (x + 37) 1 = some (nI (r 1)) := G.1 1 (by omega)
    simp only [Option.bind_some, n10, if_false, x_z1_in ρ ha, show fX10_isIn ρ (nI a) 0 1 = some (nI 1) from m_z1_in ρ ha, X1, M0, M1, F.2.1.2.2.1, G1, v1, v2]
    rw [fa_lit 0, fa_lit 1, w1, w2]
    rcases (show a = 0 ∨ a = 1 by omega) with rfl | rfl
    · rw [if_pos rfl, if_pos rfl]
      exact ⟨V, rfl, rfl⟩
    · rw [if_neg n10b, if_neg n10b]
      by_cases c : nI 0 ≤ V
      · rw [if_pos c, if_pos c]
        exact ⟨W, rfl, rfl⟩
      · rw [if_neg c, if_neg c]
        rcases v0 with rfl | ⟨j, hj, rfl⟩
        · exact ⟨_, rfl, rfl⟩
        · exact absurd (nI_le (Nat.zero_le j) (have := ok.1.1; by omega)) c
theorem sim_twins : Sim_twins Rel := by
  intro ρ z x q o a1 hR hf
  obtain ⟨r, B, ⟨X0, X1⟩, ⟨M0, M1⟩, F, G, bt, ok⟩ := hR.c
  refine rr hR ?_
  unfold fX9_twins fX10_twins
  rcases or_assoc.mpr (rng a1 (lo := 0) (hi := 1) (by omega) (by omega)) with c | ⟨a, -, ha, rfl⟩
  · (simp only [Option.bind_some, z00, if_true, n10, if_false, x_z1_out ρ c, show fX10_isIn ρ a1 0 1 = some (nI 0) from m_isIn_out ρ c]; exact ⟨_, rfl, rfl⟩)
  · obtain ⟨V, v1, v2⟩ := s_pairs F bt ok M0 M1 G
    obtain ⟨W, w1, w2⟩ := s_first F bt ok M0 M1 G
    simp only [Option.bind_some, n10, if_false, x_z1_in ρ ha, show fX10_isIn ρ (nI a) 0 1 = some (nI 1) from m_z1_in ρ ha, X1, v1, w1]
    rcases (show a = 0 ∨ a = 1 by omega) with rfl | rfl
    · rw [if_pos nI_0]
      exact ⟨V, rfl, v2⟩
    · rw [if_neg n10]
      exact ⟨W, rfl, w2⟩
