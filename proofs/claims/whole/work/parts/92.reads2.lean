/-! PURE: more calls that only read. -/
theorem and1 (v : Int32) : v &&& nI 1 = nI 0 ∨ v &&& nI 1 = nI 1 := by
  obtain ⟨j, hj, e⟩ := pk_andE v (m := nI 1) 1 (by decide)
  rcases (show j = 0 ∨ j = 1 by omega) with rfl | rfl
  · exact Or.inl e
  · exact Or.inr e
theorem m_has (ρ : Rho) (D i : Int32) : fX10_has ρ D i = some ((D >>> (i &&& nI 31)) &&& nI 1) := by
  unfold fX10_has
  show (if (D >>> (i &&& nI 31)) &&& nI 1 = nI 1 then nb (nI 1) else nb (nI 0)) = _
  rcases and1 (D >>> (i &&& nI 31)) with e | e <;> rw [e] <;> rfl
/-- how many hours on from h, among the first k behind i, are bright -/
def stF (D : Int32) (h k i : Nat) : Nat := match k with
  | 0 => i
  | k + 1 => if (D >>> (nI ((h + i) % 24) &&& nI 31)) &&& nI 1 = nI 0 then stF D h k (i + 1) else i
theorem stF_le (D : Int32) (h : Nat) : ∀ k i, i ≤ stF D h k i ∧ stF D h k i ≤ i + k := by
  intro k
  induction k with
  | zero => exact fun i => ⟨Nat.le_refl _, Nat.le_refl _⟩
  | succ k ih =>
    intro i
    rw [stF]
    split
    · have := ih (i + 1)
      omega
    · omega
theorem x_stretch (ρ : Rho) (D : Int32) {h : Nat} (hh : h < 24) : fX2_brightStretch ρ D (nI h) = some (nI (stF D h 24 0)) := by
  have key : ∀ k n i, i + k = 24 → k < n → fX2_brightStretch_2 ρ n D (nI h) (nI i) = some (nI (stF D h k i)) := by
    intro k
    induction k with
    | zero =>
      intro n i hi hn
      obtain ⟨n, rfl⟩ : ∃ p0, n = p0 + 1 := ⟨n - 1, by omega⟩
      obtain rfl : i = 24 := by omega
      rw [fX2_brightStretch_2, stF]
      rfl
    | succ k ih =>
      intro n i hi hn
      obtain ⟨n, rfl⟩ : ∃ p0, n = p0 + 1 := ⟨n - 1, by omega⟩
      have hlt : i < 24 := by omega
      rw [fX2_brightStretch_2, stF]
      rw [fa_lit 24, fa_lit 31, fa_lit 1, fa_lit 0, nI_add, pk_rem (by omega) (by omega) (by omega), if_neg (nI_ge hlt (by omega))]
      split
      · rw [nI_add]
        exact ih n (i + 1) (by omega) (by omega)
      · rfl
  exact key 24 FU 0 (by omega) (FU_gt (by omega))
theorem m_stretch (ρ : Rho) (D : Int32) {h : Nat} (hh : h < 24) (k24 : Int32 → Int32 → Int32 → Int32 → Int32 → Option Int32) (v1 v3 v4 : Int32) : fX10_bright_34 ρ k24 FU v1 D v3 v4 (nI h) (nI 0) = fX10_bright_62 ρ k24 v1 D v3 v4 (nI h) (nI (stF D h 24 0)) := by
  have key : ∀ k n i, i + k = 24 → k < n → fX10_bright_34 ρ k24 n v1 D v3 v4 (nI h) (nI i) = fX10_bright_62 ρ k24 v1 D v3 v4 (nI h) (nI (stF D h k i)) := by
    intro k
    induction k with
    | zero =>
      intro n i hi hn
      obtain ⟨n, rfl⟩ : ∃ p0, n = p0 + 1 := ⟨n - 1, by omega⟩
      obtain rfl : i = 24 := by omega
      rw [fX10_bright_34, stF]
      rfl
    | succ k ih =>
      intro n i hi hn
      obtain ⟨n, rfl⟩ : ∃ p0, n = p0 + 1 := ⟨n - 1, by omega⟩
      have hlt : i < 24 := by omega
      rw [fX10_bright_34, stF]
      rw [fa_lit 24, fa_lit 0, fa_lit 1, nI_add, pk_rem (by omega) (by omega) (by omega), if_neg (nI_ge hlt (by omega)), m_has, Option.bind_some]
      split
      · rw [nI_add]
        exact ih n (i + 1) (by omega) (by omega)
      · rfl
  exact key 24 FU 0 (by omega) (FU_gt (by omega))
theorem s_bright (ρ : Rho) (D : Int32) (a1 : Nat) (ha : a1 ≤ 1) : ∃ V, V < 24 ∧ fX2_longestBrightFrom ρ D = some (nI V) ∧ fX10_bright_24 ρ FU (nI a1) D (nI 0) (nI 0) (nI 0) = if a1 = 0 then some (nI V) else some (nI (stF D V 24 0)) := by
  have key : ∀ k n m i v, i + k = 24 → k < n → k < m → v < 24 → ∃ V, V < 24 ∧ fX2_longestBrightFrom_4 ρ n D (nI v) (nI i) = some (nI V) ∧ fX10_bright_24 ρ m (nI a1) D (nI v) (nI (stF D v 24 0)) (nI i) = if a1 = 0 then some (nI V) else some (nI (stF D V 24 0)) := by
    intro k
    induction k with
    | zero =>
      intro n m i v hi hn hm
      obtain ⟨n, rfl⟩ : ∃ p0, n = p0 + 1 := ⟨n - 1, by omega⟩
      obtain ⟨m, rfl⟩ : ∃ p0, m = p0 + 1 := ⟨m - 1, by omega⟩
      obtain rfl : i = 24 := by omega
      rw [fX2_longestBrightFrom_4, fX10_bright_24]
      intro hv
      refine ⟨v, hv, rfl, ?_⟩
      simp (disch := omega) only [Option.bind_some, fa_lit, nI_add, pk_mul, nI_leI, nI_ltI, nI_eq, nb_0, nb_1, if_true, if_false, cle (show 24 ≤ 24 by omega)]
    | succ k ih =>
      intro n m i v hi hn hm
      obtain ⟨n, rfl⟩ : ∃ p0, n = p0 + 1 := ⟨n - 1, by omega⟩
      obtain ⟨m, rfl⟩ : ∃ p0, m = p0 + 1 := ⟨m - 1, by omega⟩
      have hlt : i < 24 := by omega
      rw [fX2_longestBrightFrom_4, fX10_bright_24]
      intro hv
      have b1 := stF_le D i 24 0
      have b2 := stF_le D v 24 0
      simp (disch := omega) only [Option.bind_some, fa_lit, nI_add, pk_mul, nI_leI, nI_ltI, nI_eq, nb_0, nb_1, if_true, if_false, cnle hlt, x_stretch ρ D hlt, x_stretch ρ D hv, fX2_longestBrightFrom_25, m_stretch ρ D hlt, fX10_bright_62, fX10_bright_79]
      by_cases c : stF D v 24 0 < stF D i 24 0
      · rw [if_neg (show ¬ stF D i 24 0 ≤ stF D v 24 0 by omega), if_pos c]
        exact ih n m (i + 1) i (by omega) (by omega) (by omega) hlt
      · rw [if_pos (show stF D i 24 0 ≤ stF D v 24 0 by omega), if_neg c]
        exact ih n m (i + 1) v (by omega) (by omega) (by omega) hv
  obtain ⟨V, h1, h2, h3⟩ := key 23 FU 99999 1 0 (by omega) (FU_gt (by omega)) (by omega) (by omega)
  refine ⟨V, h1, h2, ?_⟩
  rw [show FU = 99999 + 1 from rfl, fX10_bright_24]
  have b1 := stF_le D 0 24 0
  simp (disch := omega) only [Option.bind_some, fa_lit, nI_add, pk_mul, nI_leI, nI_ltI, nI_eq, nb_0, nb_1, if_true, if_false, cnle (show 0 < 24 by omega), m_stretch ρ D (show 0 < 24 by omega), fX10_bright_62, fX10_bright_79]
  by_cases c : 0 < stF D 0 24 0
  · rw [if_pos c]
    exact h3
  · rw [if_neg c]
    rw [show stF D 0 24 0 = 0 by omega] at h3
    exact h3
theorem sim_bright : Sim_bright Rel := by
  intro ρ z x q o a1 hR hf
  obtain ⟨r, B, ⟨X0, X1⟩, ⟨M0, M1⟩, F, G, bt, ok⟩ := hR.c
  refine rr hR ?_
  obtain ⟨D, h1, h2⟩ := s_dark F bt ok M1 G
  rcases or_assoc.mpr (rng a1 (lo := 0) (hi := 1) (by omega) (by omega)) with c | ⟨a, -, ha, rfl⟩
  · refine ⟨-1, ?_, ?_⟩
    · unfold fX9_bright
      rw [x_z1_out ρ c, Option.bind_some, if_pos nI_0]
    · unfold fX10_bright
      rw [show fX10_isIn ρ a1 0 1 = some (nI 0) from m_isIn_out ρ c, Option.bind_some, if_pos nI_0]
  · obtain ⟨V, v1, v2, v3⟩ := s_bright ρ D a ha
    have e3 := x_stretch ρ D v1
    generalize stF D V 24 0 = W at v3 e3
    refine ⟨if a = 0 then nI V else nI W, ?_, ?_⟩
    · unfold fX9_bright
      rw [x_z1_in ρ ha, Option.bind_some, if_neg n10, X1, Option.bind_some, h1, Option.bind_some, v2, Option.bind_some, Option.bind_some, h1, Option.bind_some, e3, Option.bind_some]
      rcases (show a = 0 ∨ a = 1 by omega) with rfl | rfl
      · rw [if_pos nI_0, if_pos rfl]
      · rw [if_neg n10, if_neg (by omega)]
    · unfold fX10_bright
      rw [show fX10_isIn ρ (nI a) 0 1 = some (nI 1) from m_z1_in ρ ha, Option.bind_some, if_neg n10, M0, Option.bind_some, h2, Option.bind_some]
      rw [show fX10_bright_24 ρ FU (nI a) D 0 0 0 = _ from v3]
      split <;> rfl
section RD
variable {ρ : Rho} {x q B : Nat} {r : Nat → Nat}
theorem s_most (F : HouseF ρ (x + 1) r B) (bt : BitsR r B) (ok : OKr r) (M1 : gR ρ 3 q 0 = some (x + 37)) (G : ArrF ρ (x + 37) r) (a1 : Int32) : ∃ V, V < 24 ∧ fX8_liveliestHour ρ (x + 1) = some (nI V) ∧ fX10_mostMoving_15 ρ FU q a1 (nI 0) (nI 1) = if a1 = nI 0 then some (nI V) else some (nI (mvN r V)) := by
  have key : ∀ k n m i v, i + k = 24 → k < n → k < m → v < 24 → ∃ V, V < 24 ∧ fX8_liveliestHour_4 ρ n (x + 1) (nI v) (nI i) = some (nI V) ∧ fX10_mostMoving_15 ρ m q a1 (nI v) (nI i) = if a1 = nI 0 then some (nI V) else some (nI (mvN r V)) := by
    intro k
    induction k with
    | zero =>
      intro n m i v hi hn hm
      obtain ⟨n, rfl⟩ : ∃ p0, n = p0 + 1 := ⟨n - 1, by omega⟩
      obtain ⟨m, rfl⟩ : ∃ p0, m = p0 + 1 := ⟨m - 1, by omega⟩
      obtain rfl : i = 24 := by omega
      rw [fX8_liveliestHour_4, fX10_mostMoving_15]
      intro hv
      refine ⟨v, hv, rfl, ?_⟩
      simp (disch := omega) only [Option.bind_some, fa_lit, nI_add, pk_mul, nI_leI, nI_ltI, nI_eq, nb_0, nb_1, if_true, if_false, cle (show 24 ≤ 24 by omega), M1, m_movesMany G ok hv]
    | succ k ih =>
      intro n m i v hi hn hm
      obtain ⟨n, rfl⟩ : ∃ p0, n = p0 + 1 := ⟨n - 1, by omega⟩
      obtain ⟨m, rfl⟩ : ∃ p0, m = p0 + 1 := ⟨m - 1, by omega⟩
      have hlt : i < 24 := by omega
      rw [fX8_liveliestHour_4, fX10_mostMoving_15]
      intro hv
      simp (disch := omega) only [Option.bind_some, fa_lit, nI_add, pk_mul, nI_leI, nI_ltI, nI_eq, nb_0, nb_1, if_true, if_false, cnle hlt, F.1.1, x_movingAt F bt ok hlt, x_movingAt F bt ok hv, M1, m_movesMany G ok hlt, m_movesMany G ok hv, fX8_liveliestHour_25, fX10_mostMoving_42]
      split
      · exact ih n m (i + 1) v (by omega) (by omega) (by omega) hv
      · exact ih n m (i + 1) i (by omega) (by omega) (by omega) hlt
  exact key 23 FU FU 1 0 (by omega) (FU_gt (by omega)) (FU_gt (by omega)) (by omega)
theorem s_taken (F : HouseF ρ (x + 1) r B) (bt : BitsR r B) (ok : OKr r) (M1 : gR ρ 3 q 0 = some (x + 37)) (G : ArrF ρ (x + 37) r) (a1 : Int32) : ∃ V, fX8_takenForTrue ρ (x + 1) a1 = some V ∧ fX10_taken_16 ρ FU q a1 (nI 0) (nI 0) = some V := by
  have h8 := ok.1.1
  have hh := ok.1.2.1
  have key : ∀ k n m i v, i + k = r 0 → k < n → k < m → ∃ V, fX8_takenForTrue_4 ρ n (x + 1) a1 v (nI i) = some V ∧ fX10_taken_16 ρ m q a1 v (nI i) = some V := by
    intro k
    induction k with
    | zero =>
      intro n m i v hi hn hm
      obtain ⟨n, rfl⟩ : ∃ p0, n = p0 + 1 := ⟨n - 1, by omega⟩
      obtain ⟨m, rfl⟩ : ∃ p0, m = p0 + 1 := ⟨m - 1, by omega⟩
      obtain rfl : i = r 0 := by omega
      rw [fX8_takenForTrue_4, fX10_taken_16]
      simp (disch := omega) only [Option.bind_some, fa_lit, nI_add, pk_mul, nI_leI, nI_ltI, nI_eq, nb_0, nb_1, if_true, if_false, F.2.1.1, M1, G.1 0 (by omega), cle (Nat.le_refl (r 0))]
      exact ⟨v, rfl, rfl⟩
    | succ k ih =>
      intro n m i v hi hn hm
      obtain ⟨n, rfl⟩ : ∃ p0, n = p0 + 1 := ⟨n - 1, by omega⟩
      obtain ⟨m, rfl⟩ : ∃ p0, m = p0 + 1 := ⟨m - 1, by omega⟩
      have hlt : i < r 0 := by omega
      rw [fX8_takenForTrue_4, fX10_taken_16]
      obtain ⟨g1, g2, g3, g4, g5⟩ := ok.2.2 i hlt
      simp (disch := omega) only [Option.bind_some, fa_lit, nI_add, pk_mul, nI_leI, nI_ltI, nI_eq, nb_0, nb_1, if_true, if_false, F.2.1.1, F.2.1.2.2.1, M1, G.1 0 (by omega), G.1 1 (by omega), cnle hlt, F.1.1, x_isStopped F bt ok hlt, x_seemingOf F bt ok hlt hh, x_shineOf F bt ok hlt hh, m_isOpen G ok hlt, m_seems G ok hlt hh, m_shines G ok hlt hh, fX8_takenForTrue_51, fX10_taken_80, fX10_taken_79, or0]
      rcases (show r (9 + 5 * i + 4) = 0 ∨ r (9 + 5 * i + 4) = 1 by omega) with e | e
      · simp (disch := omega) only [Option.bind_some, fa_lit, nI_add, pk_mul, nI_leI, nI_ltI, nI_eq, nb_0, nb_1, if_true, if_false, e, c00, c10, Nat.sub_zero]
        split
        · exact ih n m (i + 1) v (by omega) (by omega) (by omega)
        · split
          · exact ih n m (i + 1) _ (by omega) (by omega) (by omega)
          · exact ih n m (i + 1) v (by omega) (by omega) (by omega)
      · simp (disch := omega) only [Option.bind_some, fa_lit, nI_add, pk_mul, nI_leI, nI_ltI, nI_eq, nb_0, nb_1, if_true, if_false, e, c00, c10, Nat.sub_self]
        exact ih n m (i + 1) v (by omega) (by omega) (by omega)
  exact key (r 0) FU FU 0 (nI 0) (by omega) (FU_gt (by omega)) (FU_gt (by omega))
end RD
theorem sim_mostMoving : Sim_mostMoving Rel := by
  intro ρ z x q o a1 hR hf
  obtain ⟨r, B, ⟨X0, X1⟩, ⟨M0, M1⟩, F, G, bt, ok⟩ := hR.c
  refine rr hR ?_
  unfold fX9_mostMoving fX10_mostMoving
  rcases or_assoc.mpr (rng a1 (lo := 0) (hi := 1) (by omega) (by omega)) with c | ⟨a, -, ha, rfl⟩
  · rw [x_z1_out ρ c, show fX10_isIn ρ a1 0 1 = some (nI 0) from m_isIn_out ρ c]
    exact ⟨_, rfl, rfl⟩
  · obtain ⟨V, v1, v2, v3⟩ := s_most F bt ok M1 G (nI a)
    simp only [Option.bind_some, n10, if_false, x_z1_in ρ ha, show fX10_isIn ρ (nI a) 0 1 = some (nI 1) from m_z1_in ρ ha, X1, M0, v2, F.1.1, x_movingAt F bt ok v1]
    rw [show fX10_mostMoving_15 ρ FU q (nI a) 0 1 = _ from v3]
    rcases (show a = 0 ∨ a = 1 by omega) with rfl | rfl <;> exact ⟨_, rfl, rfl⟩
theorem sim_taken : Sim_taken Rel := by
  intro ρ z x q o a1 hR hf
  obtain ⟨r, B, ⟨X0, X1⟩, ⟨M0, M1⟩, F, G, bt, ok⟩ := hR.c
  refine rr hR ?_
  unfold fX9_taken fX10_taken
  rcases or_assoc.mpr (rng a1 (lo := 0) (hi := 20) (by omega) (by omega)) with c | ⟨a, -, ha, rfl⟩
  · rw [show fX0_isWithin ρ a1 0 20 = some (nI 0) from x_within_out ρ c, show fX10_isIn ρ a1 0 20 = some (nI 0) from m_isIn_out ρ c]
    exact ⟨_, rfl, rfl⟩
  · obtain ⟨V, v1, v2⟩ := s_taken F bt ok M1 G (nI a)
    simp only [Option.bind_some, n10, if_false, show fX0_isWithin ρ (nI a) 0 20 = some (nI 1) from x_within_in ρ (lo := 0) (hi := 20) (by omega) ha (by omega), show fX10_isIn ρ (nI a) 0 20 = some (nI 1) from m_isIn_in ρ (lo := 0) (hi := 20) (by omega) ha (by omega), X1, v1]
    exact ⟨V, rfl, v2⟩
