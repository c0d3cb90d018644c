/-! PURE: mean, mirrors, count. -/
theorem odds_mean : ∀ s, s < 2305 → ∀ p, p < 2 → fX4_leastTerms ρN (lN s) 24 (nI p) = fX10_partOf ρN (lN s) 24 (nI p) ∧ (fX10_partOf ρN (lN s) 24 (nI p)).isSome = true := by decide +kernel
theorem bits_or : ∀ B, B < 256 → ∀ i, i < 8 → nI (B % 2 ^ i) ||| (nI (B / 2 ^ i % 2) <<< (nI i &&& nI 31)) = nI (B % 2 ^ (i + 1)) := by decide +kernel
theorem cd_N (ρ : Rho) : ∀ n a b i, fX4_commonDivisor_9 ρ n a b i = fX4_commonDivisor_9 ρN n a b i := by
  intro n
  induction n with
  | zero => exact fun _ _ _ => rfl
  | succ n ih =>
    intro a b i
    rw [fX4_commonDivisor_9, fX4_commonDivisor_9]
    simp only [ih]
theorem gcd_N (ρ : Rho) : ∀ n a b, fX10_gcd_6 ρ n a b = fX10_gcd_6 ρN n a b := by
  intro n
  induction n with
  | zero => exact fun _ _ => rfl
  | succ n ih =>
    intro a b
    rw [fX10_gcd_6, fX10_gcd_6]
    simp only [ih]
theorem lt_N (ρ : Rho) (a b : Int64) (p : Int32) : fX4_leastTerms ρ a b p = fX4_leastTerms ρN a b p := by
  unfold fX4_leastTerms fX4_commonDivisor
  rw [cd_N]
theorem po_N (ρ : Rho) (a b : Int64) (p : Int32) : fX10_partOf ρ a b p = fX10_partOf ρN a b p := by
  unfold fX10_partOf fX10_partOf_20 fX10_gcd
  simp only [gcd_N ρ]
section RD
variable {ρ : Rho} {x q B : Nat} {r : Nat → Nat}
theorem s_day (F : HouseF ρ (x + 1) r B) (bt : BitsR r B) (ok : OKr r) {room : Nat} (hr : room < 4) : fX2_dayLight ρ (x + 1) (nI room) = some (nI (sumTo 24 (fun h => lit r room h))) := by
  have key : ∀ k n i, i + k = 24 → k < n → fX2_dayLight_4 ρ n (x + 1) (nI room) (nI (sumTo i (fun h => lit r room h))) (nI i) = some (nI (sumTo 24 (fun h => lit r room h))) := by
    intro k
    induction k with
    | zero =>
      intro n i hi hn
      obtain ⟨n, rfl⟩ : ∃ p0, n = p0 + 1 := ⟨n - 1, by omega⟩
      obtain rfl : i = 24 := by omega
      rw [fX2_dayLight_4]
      rfl
    | succ k ih =>
      intro n i hi hn
      obtain ⟨n, rfl⟩ : ∃ p0, n = p0 + 1 := ⟨n - 1, by omega⟩
      have hlt : i < 24 := by omega
      rw [fX2_dayLight_4]
      simp (disch := omega) only [Option.bind_some, fa_lit, nI_add, pk_mul, nI_leI, nI_ltI, nI_eq, nb_0, nb_1, if_true, if_false, cnle hlt, F.1.1, x_roomLight F bt ok hr hlt]
      exact ih n (i + 1) (by omega) (by omega)
  exact key 24 FU 0 (by omega) (FU_gt (by omega))
theorem s_dayM (ok : OKr r) (M1 : gR ρ 3 q 0 = some (x + 37)) (G : ArrF ρ (x + 37) r) {room : Nat} (hr : room < 4) (p : Int32) : fX10_mean_25 ρ FU q (nI room) p (lN 0) (nI 0) = fX10_partOf ρ (lN (sumTo 24 (fun h => lit r room h))) 24 p := by
  have key : ∀ k n i, i + k = 24 → k < n → fX10_mean_25 ρ n q (nI room) p (lN (sumTo i (fun h => lit r room h))) (nI i) = fX10_partOf ρ (lN (sumTo 24 (fun h => lit r room h))) 24 p := by
    intro k
    induction k with
    | zero =>
      intro n i hi hn
      obtain ⟨n, rfl⟩ : ∃ p0, n = p0 + 1 := ⟨n - 1, by omega⟩
      obtain rfl : i = 24 := by omega
      rw [fX10_mean_25]
      rw [if_pos (show (24 : Int32) ≤ nI 24 by decide)]
      cases fX10_partOf ρ (lN (sumTo 24 (fun h => lit r room h))) 24 p <;> rfl
    | succ k ih =>
      intro n i hi hn
      obtain ⟨n, rfl⟩ : ∃ p0, n = p0 + 1 := ⟨n - 1, by omega⟩
      have hlt : i < 24 := by omega
      rw [fX10_mean_25]
      have b := lit_le ok (room := room) hlt
      rw [if_neg (show ¬ (24 : Int32) ≤ nI i from nI_ge (b := 24) hlt (by omega)), M1, Option.bind_some, m_lightOf G ok hr hlt, Option.bind_some, nI_l (by omega), lN_add, nI_1]
      exact ih n (i + 1) (by omega) (by omega)
  exact key 24 FU 0 (by omega) (FU_gt (by omega))
end RD
theorem sim_mean : Sim_mean Rel := by
  intro ρ z x q o a1 a2 hR hf
  obtain ⟨r, B, ⟨X0, X1⟩, ⟨M0, M1⟩, F, G, bt, ok⟩ := hR.c
  refine rr hR ?_
  unfold fX9_mean fX10_mean fX9_mean_14 fX10_mean_16
  rcases or_assoc.mpr (rng a1 (lo := 0) (hi := 3) (by omega) (by omega)) with c | ⟨room, -, hr, rfl⟩
  · (simp only [Option.bind_some, z00, if_true, n10, if_false, x_room_out ρ c, m_room_out ρ c]; exact ⟨_, rfl, rfl⟩)
  rcases or_assoc.mpr (rng a2 (lo := 0) (hi := 1) (by omega) (by omega)) with c | ⟨p, -, hp, rfl⟩
  · (simp only [Option.bind_some, z00, if_true, n10, if_false, x_room_in ρ (show room < 4 by omega), m_room_in ρ (show room < 4 by omega), x_z1_out ρ c, show fX10_isIn ρ a2 0 1 = some (nI 0) from m_isIn_out ρ c]; exact ⟨_, rfl, rfl⟩)
  · have b : sumTo 24 (fun h => lit r room h) ≤ 24 * 96 := sumTo_le (fun h hh => lit_le ok hh)
    obtain ⟨e1, e2⟩ := odds_mean _ (show sumTo 24 (fun h => lit r room h) < 2305 by omega) p (by omega)
    obtain ⟨V, hV⟩ := Option.isSome_iff_exists.mp e2
    simp only [Option.bind_some, n10, if_false, x_room_in ρ (show room < 4 by omega), m_room_in ρ (show room < 4 by omega), x_z1_in ρ hp, show fX10_isIn ρ (nI p) 0 1 = some (nI 1) from m_z1_in ρ hp, X1, s_day F bt ok (show room < 4 by omega), nI_l (show sumTo 24 (fun h => lit r room h) < 2 ^ 31 by omega)]
    rw [lt_N, e1, show (0 : Int64) = lN 0 from rfl, fa_lit 0, s_dayM ok M1 G (show room < 4 by omega) (nI p), po_N ρ, hV]
    exact ⟨V, rfl, rfl⟩
theorem sim_count : Sim_count Rel := by
  intro ρ z x q o a1 hR hf
  obtain ⟨r, B, ⟨X0, X1⟩, ⟨M0, M1⟩, F, G, bt, ok⟩ := hR.c
  refine rr hR ?_
  have h8 := ok.1.1
  unfold fX9_count fX10_count
  have out : ∀ j, j ≤ 7 → (a1 < nI 0 ∨ nI 7 < a1) → ¬ a1 = nI j := fun j hj c => of_eq_false (ne_out c hj (by omega))
  rcases or_assoc.mpr (rng a1 (lo := 0) (hi := 7) (by omega) (by omega)) with c | ⟨j, -, hj, rfl⟩
  · have c4 : a1 < nI 0 ∨ nI 4 < a1 := by
      rcases c with c | c
      · exact Or.inl c
      · right
        rw [Int32.lt_iff_toInt_lt, nI_toInt (by omega)] at c ⊢
        omega
    rw [if_neg (show ¬ a1 = (0 : Int32) from out 0 (by omega) c), if_neg (show ¬ a1 = (1 : Int32) from out 1 (by omega) c), if_neg (show ¬ a1 = (2 : Int32) from out 2 (by omega) c), if_neg (show ¬ a1 = (3 : Int32) from out 3 (by omega) c), if_neg (show ¬ a1 = (4 : Int32) from out 4 (by omega) c), if_neg (show ¬ a1 = (5 : Int32) from out 5 (by omega) c), if_neg (show ¬ a1 = (6 : Int32) from out 6 (by omega) c), if_neg (show ¬ a1 = (7 : Int32) from out 7 (by omega) c), if_neg (show ¬ a1 = (5 : Int32) from out 5 (by omega) c), if_neg (show ¬ a1 = (6 : Int32) from out 6 (by omega) c), if_neg (show ¬ a1 = (7 : Int32) from out 7 (by omega) c), show fX10_isIn ρ a1 0 4 = some (nI 0) from m_isIn_out ρ c4]
    exact ⟨_, rfl, rfl⟩
  have lo : ∀ j, j ≤ 4 → fX10_isIn ρ (nI j) 0 4 = some (nI 1) := fun j hj => m_isIn_in ρ (lo := 0) (hi := 4) (by omega) hj (by omega)
  have hi : ∀ j, 4 < j → j ≤ 7 → fX10_isIn ρ (nI j) 0 4 = some (nI 0) := fun j h1 h2 => m_isIn_out ρ (lo := 0) (hi := 4) (Or.inr (nI_lt h1 (by omega)))
  have k5 : fX10_count_46 ρ FU q (nI 0) (nI 0) = some (nI B) := by
    have key : ∀ k n i, i + k = r 0 → k < n → fX10_count_46 ρ n q (nI (B % 2 ^ i)) (nI i) = some (nI B) := by
      intro k
      induction k with
      | zero =>
        intro n i hi hn
        obtain ⟨n, rfl⟩ : ∃ p0, n = p0 + 1 := ⟨n - 1, by omega⟩
        obtain rfl : i = r 0 := by omega
        rw [fX10_count_46]
        rw [M1, Option.bind_some, show (0 : Int32) = nI 0 from rfl, G.1 0 (by omega), Option.bind_some, if_pos (nI_le (Nat.le_refl _) (by omega)), Nat.mod_eq_of_lt bt.1]
      | succ k ih =>
        intro n i hi hn
        obtain ⟨n, rfl⟩ : ∃ p0, n = p0 + 1 := ⟨n - 1, by omega⟩
        have hlt : i < r 0 := by omega
        rw [fX10_count_46]
        rw [M1, Option.bind_some, show (0 : Int32) = nI 0 from rfl, G.1 0 (by omega), Option.bind_some, if_neg (nI_ge hlt (by omega)), Option.bind_some, fa_lit 4, m_of, Option.bind_some, G.2 i hlt 4 (by omega), Option.bind_some, bt.2 i hlt, fa_lit 31, bits_or B (bt.lt h8) i (by omega), nI_1]
        exact ih n (i + 1) (by omega) (by omega)
    have := key (r 0) FU 0 (by omega) (FU_gt (by omega))
    rw [Nat.pow_zero, Nat.mod_one] at this
    exact this
  have k6 : fX10_count_81 ρ FU q (nI 0) (nI 0) = some (nI (sumTo 4 (fun i => r (5 + i)))) := by
    have key : ∀ k n i, i + k = 4 → k < n → fX10_count_81 ρ n q (nI (sumTo i (fun i => r (5 + i)))) (nI i) = some (nI (sumTo 4 (fun i => r (5 + i)))) := by
      intro k
      induction k with
      | zero =>
        intro n i hi hn
        obtain ⟨n, rfl⟩ : ∃ p0, n = p0 + 1 := ⟨n - 1, by omega⟩
        obtain rfl : i = 4 := by omega
        rw [fX10_count_81]
        rw [if_pos (show (4 : Int32) ≤ nI 4 by decide)]
      | succ k ih =>
        intro n i hi hn
        obtain ⟨n, rfl⟩ : ∃ p0, n = p0 + 1 := ⟨n - 1, by omega⟩
        have hlt : i < 4 := by omega
        rw [fX10_count_81]
        rw [if_neg (show ¬ (4 : Int32) ≤ nI i from nI_ge (b := 4) hlt (by omega)), M1, Option.bind_some, m_need G hlt, Option.bind_some, nI_1, nI_add]
        exact ih n (i + 1) (by omega) (by omega)
    exact key 4 FU 0 (by omega) (FU_gt (by omega))
  rcases (show j = 0 ∨ j = 1 ∨ j = 2 ∨ j = 3 ∨ j = 4 ∨ j = 5 ∨ j = 6 ∨ j = 7 by omega) with rfl | rfl | rfl | rfl | rfl | rfl | rfl | rfl
  · rw [lo 0 (by omega), if_pos (show nI 0 = (0 : Int32) from rfl), X1, Option.bind_some, F.2.1.1, M1, Option.bind_some, Option.bind_some, if_neg n10, Option.bind_some, G.1 0 (by omega)]
    exact ⟨_, rfl, rfl⟩
  · rw [lo 1 (by omega), if_neg (show ¬ nI 1 = (0 : Int32) by decide), if_pos (show nI 1 = (1 : Int32) from rfl), X1, Option.bind_some, F.2.1.2.2.1, M1, Option.bind_some, Option.bind_some, if_neg n10, Option.bind_some, G.1 1 (by omega)]
    exact ⟨_, rfl, rfl⟩
  · rw [lo 2 (by omega), if_neg (show ¬ nI 2 = (0 : Int32) by decide), if_neg (show ¬ nI 2 = (1 : Int32) by decide), if_pos (show nI 2 = (2 : Int32) from rfl), X1, Option.bind_some, F.2.1.2.2.2.1, M1, Option.bind_some, Option.bind_some, if_neg n10, Option.bind_some, G.1 2 (by omega)]
    exact ⟨_, rfl, rfl⟩
  · rw [lo 3 (by omega), if_neg (show ¬ nI 3 = (0 : Int32) by decide), if_neg (show ¬ nI 3 = (1 : Int32) by decide), if_neg (show ¬ nI 3 = (2 : Int32) by decide), if_pos (show nI 3 = (3 : Int32) from rfl), X1, Option.bind_some, F.2.1.2.2.2.2.1, M1, Option.bind_some, Option.bind_some, if_neg n10, Option.bind_some, G.1 3 (by omega)]
    exact ⟨_, rfl, rfl⟩
  · rw [lo 4 (by omega), if_neg (show ¬ nI 4 = (0 : Int32) by decide), if_neg (show ¬ nI 4 = (1 : Int32) by decide), if_neg (show ¬ nI 4 = (2 : Int32) by decide), if_neg (show ¬ nI 4 = (3 : Int32) by decide), if_pos (show nI 4 = (4 : Int32) from rfl), X1, Option.bind_some, F.2.1.2.2.2.2.2, M1, Option.bind_some, Option.bind_some, if_neg n10, Option.bind_some, G.1 4 (by omega)]
    exact ⟨_, rfl, rfl⟩
  · refine ⟨nI B, ?_, ?_⟩
    · rw [if_neg (show ¬ nI 5 = (0 : Int32) by decide), if_neg (show ¬ nI 5 = (1 : Int32) by decide), if_neg (show ¬ nI 5 = (2 : Int32) by decide), if_neg (show ¬ nI 5 = (3 : Int32) by decide), if_neg (show ¬ nI 5 = (4 : Int32) by decide), if_pos (show nI 5 = (5 : Int32) from rfl), X1, Option.bind_some, F.2.1.2.1, Option.bind_some]
    · rw [hi 5 (by omega) (by omega), Option.bind_some, if_pos nI_0, if_pos (show nI 5 = (5 : Int32) from rfl)]
      exact k5
  · refine ⟨nI (sumTo 4 (fun i => r (5 + i))), ?_, ?_⟩
    · rw [if_neg (show ¬ nI 6 = (0 : Int32) by decide), if_neg (show ¬ nI 6 = (1 : Int32) by decide), if_neg (show ¬ nI 6 = (2 : Int32) by decide), if_neg (show ¬ nI 6 = (3 : Int32) by decide), if_neg (show ¬ nI 6 = (4 : Int32) by decide), if_neg (show ¬ nI 6 = (5 : Int32) by decide), if_pos (show nI 6 = (6 : Int32) from rfl), X1, Option.bind_some, F.1.1, Option.bind_some, x_allNeeds F, Option.bind_some]
    · rw [hi 6 (by omega) (by omega), Option.bind_some, if_pos nI_0, if_neg (show ¬ nI 6 = (5 : Int32) by decide), if_pos (show nI 6 = (6 : Int32) from rfl)]
      exact k6
  · refine ⟨nI (alit r (r 1)), ?_, ?_⟩
    · rw [if_neg (show ¬ nI 7 = (0 : Int32) by decide), if_neg (show ¬ nI 7 = (1 : Int32) by decide), if_neg (show ¬ nI 7 = (2 : Int32) by decide), if_neg (show ¬ nI 7 = (3 : Int32) by decide), if_neg (show ¬ nI 7 = (4 : Int32) by decide), if_neg (show ¬ nI 7 = (5 : Int32) by decide), if_neg (show ¬ nI 7 = (6 : Int32) by decide), if_pos (show nI 7 = (7 : Int32) from rfl), X1, Option.bind_some, Option.bind_some, F.2.1.2.2.1, Option.bind_some, F.1.1, Option.bind_some, x_wholeLight F bt ok ok.1.2.1, Option.bind_some]
    · rw [hi 7 (by omega) (by omega), Option.bind_some, if_pos nI_0, if_neg (show ¬ nI 7 = (5 : Int32) by decide), if_neg (show ¬ nI 7 = (6 : Int32) by decide), if_pos (show nI 7 = (7 : Int32) from rfl), M1, Option.bind_some, Option.bind_some, show (1 : Int32) = nI 1 from rfl, G.1 1 (by omega), Option.bind_some, m_allLight G ok ok.1.2.1, Option.bind_some]
