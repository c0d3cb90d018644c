/-! PURE: lots. -/
theorem hr_of (S : Int32) : ∃ t, t < 24 ∧ ((S &&& (2147483647 : Int32)) / 65536) - ((S &&& (2147483647 : Int32)) / 65536) / 24 * 24 = nI t := by
  obtain ⟨j, hj, e⟩ := pk_andE S (m := 2147483647) 31 (by decide)
  refine ⟨j / 65536 % 24, by omega, ?_⟩
  rw [e, show (65536 : Int32) = nI 65536 from rfl, pk_div hj (by omega) (by omega), show (24 : Int32) = nI 24 from rfl, pk_rem (by omega) (by omega) (by omega)]
section LT
variable {ρ : Rho} {x : Nat} {h : Nat} {n i d : HT} {sf se : Nat → Nat → Int32} {mo : Nat → Int32} {a b g w : Nat → Nat} {u t : Nat → Int32} {sk : Nat → Nat → Int32} {sm : Nat → Int32}
theorem s_lotsI (F : HouseF ρ (x + 1) n.1 n.2) (bt : BitsR n.1 n.2) (ok : OKr n.1) (p q : Int32) (j : Nat) (more : Int32) (k12 : Nat → Int32 → Int32 → Int32 → Int32 → Int32 → Int32 → Option Int32) (k35 : Rho → Nat → Int32 → Int32 → Int32 → Int32 → Int32 → Option (Int32 × Rho)) : ∀ k n' m y o liv S σ mo' b', y + k = 10 → k < n' → k < m → Inv x h n i d sf se mo' n.1 b' g w u t sk sm σ → mo' 5 = S → mo' 0 = mo 0 → Agr n.1 b' → b' 3 = o → o ≤ 99999 → b' 1 < 24 → ∃ more' liv' S' σ' mo'' b'', fX3_drawnYears_27 ρ k12 n' (x + 1) p q more liv S (nI j) (nI o) (nI y) = k12 (x + 1) p q more' liv' S' (nI (j + 1)) ∧ fX10_lots_55 k35 m σ (x + 36) p q more liv (nI j) (nI y) = k35 σ' (x + 36) p q more' liv' (nI (j + 1)) ∧ Inv x h n i d sf se mo'' n.1 b'' g w u t sk sm σ' ∧ mo'' 5 = S' ∧ mo'' 0 = mo 0 := by
  intro k
  induction k with
  | zero =>
    intro n' m y o liv S σ mo' b' hi hn hm I e5 e0 ag e3 ho e1
    obtain ⟨n', rfl⟩ : ∃ p0, n' = p0 + 1 := ⟨n' - 1, by omega⟩
    obtain ⟨m, rfl⟩ : ∃ p0, m = p0 + 1 := ⟨m - 1, by omega⟩
    obtain rfl : y = 10 := by omega
    have ok2 := ag.ok ok e1 (by rw [e3]; exact ho)
    have G := I.A.f ok.1.1
    have G2 := I.B.f ok2.1.1
    have g3 : ldI σ (x + 37) 3 = some (nI (n.1 3)) := G.1 3 (by omega)
    have g33 : ldI σ (x + 38) 3 = some (nI o) := by rw [← e3]; exact G2.1 3 (by omega)
    refine ⟨more + (nI o - nI (n.1 3)), liv, S, σ, mo', b', ?_, ?_, I, e5, e0⟩
    · rw [fX3_drawnYears_27, if_pos (show (10 : Int32) ≤ nI 10 by decide), F.2.1.2.2.2.2.1, Option.bind_some, nI_1]
    · rw [fX10_lots_55, if_pos (show (10 : Int32) ≤ nI 10 by decide)]
      simp only [Option.bind_some, n10, if_false, I.O.m, I.O.s, g3, g33, nI_1]
  | succ k ih =>
    intro n' m y o liv S σ mo' b' hi hn hm I e5 e0 ag e3 ho e1
    obtain ⟨n', rfl⟩ : ∃ p0, n' = p0 + 1 := ⟨n' - 1, by omega⟩
    obtain ⟨m, rfl⟩ : ∃ p0, m = p0 + 1 := ⟨m - 1, by omega⟩
    have hlt : y < 10 := by omega
    obtain ⟨hr, h24, eh⟩ := hr_of (S * 1103515245 + 12345)
    have ok2 := ag.ok ok e1 (by rw [e3]; exact ho)
    -- the model's draw
    obtain ⟨σ1, a1, a2, a3⟩ := I.O.pt (k := 11) (j := 5) (by omega) (S * 1103515245 + 12345)
    have I1 := I.uO (fun j hj hc => a2 (x + j) (by omega)) a3
    obtain ⟨σ2, b1, b2, b3⟩ := I1.B.set (j := 1) (by omega) (by omega) hr
    have I2 := I1.uB (fun j hj hc => b2 (x + j) (by omega)) b3
    have ag2 : Agr n.1 (setE b' 1 hr) := ag.set (Or.inl rfl)
    have ok3 : OKr (setE b' 1 hr) := ag2.ok ok (by rw [setE_s]; exact h24) (by rw [setE_n (by omega), e3]; exact ho)
    have G3 := I2.B.f ok3.1.1
    obtain ⟨σ3, c1, c2, c3⟩ := m_year I2.B ok3
    have I3 := I2.uB (fun j hj hc => c2 (x + j) (by omega)) c3
    have hy : yrO (setE b' 1 hr) (setE b' 1 hr 3) (setE b' 1 hr 1) = yrO n.1 o hr := by
      rw [setE_s, setE_n (by omega), e3, ag2.yr]
    have g11 : ldI σ2 (x + 38) 1 = some (nI hr) := by
      have := G3.1 1 (by omega)
      rw [setE_s] at this
      exact this
    have hdr : fX10_drawn σ (x + 36) 24 = some (nI hr, σ1) := by
      unfold fX10_drawn
      rw [I.O.h5, e5, Option.bind_some, a1, Option.bind_some, I1.O.h5, pk_us, Option.bind_some, rm, if_neg (by decide), Option.bind_some, eh]
    obtain ⟨more', liv', S', σ', mo'', b'', q1, q2, q3, q4, q5⟩ := ih n' m (y + 1) (yrO n.1 o hr) (if mvN n.1 hr ≤ 0 then liv else liv + nI 1) (S * 1103515245 + 12345) σ3 _ _ (by omega) (by omega) (by omega) I3 pk_us (by rw [pk_un (by omega)]; exact e0) (ag2.set (Or.inr rfl)) (by rw [setE_s]; exact hy) (yrO_le _ _) (by rw [setE_n (by omega), setE_s]; exact h24)
    refine ⟨more', liv', S', σ', mo'', b'', ?_, ?_, q3, q4, q5⟩
    · rw [fX3_drawnYears_27, if_neg (show ¬ (10 : Int32) ≤ nI y from nI_ge (b := 10) hlt (by omega)), F.1.1, Option.bind_some, eh, x_owedBehindYear F bt ok ho h24, Option.bind_some, Option.bind_some, x_movingAt F bt ok h24, Option.bind_some, fX3_drawnYears_80, fX3_drawnYears_80, fa_lit 1, nI_add, ← q1]
      by_cases c : mvN n.1 hr ≤ 0
      · rw [if_pos c, show mvN n.1 hr = 0 by omega, if_pos (show nI 0 ≤ 0 by decide)]
      · rw [if_neg c, if_neg (show ¬ nI (mvN n.1 hr) ≤ 0 from nI_nle (by omega) (by
          have := sumTo_le (n := n.1 0) (b := 1) (f := fun w => mov n.1 w hr) (fun w _ => mov_le w hr)
          have h8 := ok.1.1
          unfold mvN
          omega))]
    · rw [fX10_lots_55, if_neg (show ¬ (10 : Int32) ≤ nI y from nI_ge (b := 10) hlt (by omega)), I.O.m, Option.bind_some, ckO_at I.O, Option.bind_some, hdr, Option.bind_some, show stI σ1 (x + 38) 1 (nI hr) = some σ2 from b1, Option.bind_some, I2.O.m, Option.bind_some, Option.bind_some, g11, Option.bind_some, m_movesMany G3 ok3 h24, (ag2.mv hr).2, Option.bind_some, fX10_lots_97, fX10_lots_97, I2.O.m, Option.bind_some, c1, Option.bind_some, fa_lit 1, nI_add, ← q2]
      by_cases c : mvN n.1 hr ≤ 0
      · rw [if_pos c, show mvN n.1 hr = 0 by omega, if_pos (show nI 0 ≤ 0 by decide), show liv + 0 = liv from Int32.add_zero liv]
      · rw [if_neg c, if_neg (show ¬ nI (mvN n.1 hr) ≤ 0 from nI_nle (by omega) (by
          have := sumTo_le (n := n.1 0) (b := 1) (f := fun w => mov n.1 w hr) (fun w _ => mov_le w hr)
          have h8 := ok.1.1
          unfold mvN
          omega)), Option.bind_some, c1, Option.bind_some]
theorem s_lotsO (F : HouseF ρ (x + 1) n.1 n.2) (bt : BitsR n.1 n.2) (ok : OKr n.1) (N : Nat) (hN : N ≤ 20) (q : Int32) : ∀ k n' m j more liv S σ mo' b', j + k = N → k < n' → k < m → Inv x h n i d sf se mo' n.1 b' g w u t sk sm σ → mo' 5 = S → mo' 0 = mo 0 → ∃ V σ' mo'' b'', fX3_drawnYears_12 ρ n' (x + 1) (nI N) q more liv S (nI j) = some V ∧ fX10_lots_35 m σ (x + 36) (nI N) q more liv (nI j) = some (V, σ') ∧ Inv x h n i d sf se mo'' n.1 b'' g w u t sk sm σ' ∧ mo'' 0 = mo 0 := by
  have d4 := ok.1.2.2.2.1
  intro k
  induction k with
  | zero =>
    intro n' m j more liv S σ mo' b' hi hn hm I e5 e0
    obtain ⟨n', rfl⟩ : ∃ p0, n' = p0 + 1 := ⟨n' - 1, by omega⟩
    obtain ⟨m, rfl⟩ : ∃ p0, m = p0 + 1 := ⟨m - 1, by omega⟩
    rw [fX3_drawnYears_12, fX10_lots_35, if_pos (nI_le (by omega) (by omega)), if_pos (nI_le (by omega) (by omega))]
    by_cases c : q = 0
    · rw [if_pos c, if_pos c]
      exact ⟨more, σ, mo', b', rfl, rfl, I, e0⟩
    · rw [if_neg c, if_neg c]
      exact ⟨liv, σ, mo', b', rfl, rfl, I, e0⟩
  | succ k ih =>
    intro n' m j more liv S σ mo' b' hi hn hm I e5 e0
    obtain ⟨n', rfl⟩ : ∃ p0, n' = p0 + 1 := ⟨n' - 1, by omega⟩
    obtain ⟨m, rfl⟩ : ∃ p0, m = p0 + 1 := ⟨m - 1, by omega⟩
    have hlt : j < N := by omega
    obtain ⟨σ1, a1, a2, a3⟩ := m_copies I.A ok.1.1 I.B (by omega)
    have I1 := I.uB (fun j hj hc => a2 (x + j) (by omega)) a3
    obtain ⟨more', liv', S', σ', mo'', b'', q1, q2, q3, q4, q5⟩ := s_lotsI (mo := mo) F bt ok (nI N) q j more (fX3_drawnYears_12 ρ n') (fX10_lots_35 m) 10 FU FU 0 (n.1 3) liv S σ1 mo' n.1 (by omega) (FU_gt (by omega)) (FU_gt (by omega)) I1 e5 e0 Agr.rf rfl d4 ok.1.2.1
    rw [fX3_drawnYears_12, fX10_lots_35, if_neg (nI_ge hlt (by omega)), if_neg (nI_ge hlt (by omega)), F.2.1.2.2.2.2.1, Option.bind_some, I.O.s, Option.bind_some, I.O.m, Option.bind_some, a1, Option.bind_some, fa_lit 0, q1, q2]
    exact ih n' m (j + 1) more' liv' S' σ' mo'' b'' (by omega) (by omega) (by omega) q3 q4 q5
end LT
theorem sim_lots : Sim_lots Rel := by
  intro ρ z0 x q o a1 a2 a3 hR hf
  obtain ⟨z, h, n, i, d, sf, se, mo, a, b, g, w, u, t, sk, sm, ⟨hx, hq, ho⟩, I, gd, sh⟩ := id hR
  subst hq ho
  subst hx
  obtain ⟨⟨g1, g2⟩, ⟨ea, ok, bt⟩, gi⟩ := id gd
  have hA : ArrR ρ (x + 37) n.1 := ea ▸ I.A
  have F := I.N.f ok.1.1
  have G := hA.f ok.1.1
  have X1 : gR ρ 2 x 0 = some (x + 1) := gR_at I.X rfl
  have M0 : ckO ρ 3 (x + 36) = some () := ckO_at I.O
  have M1 : gR ρ 3 (x + 36) 0 = some (x + 37) := gR_at I.O rfl
  subst ea
  have fin : ∀ {fx : Option Int32} {fm : Option (Int32 × Rho)}, (∃ V σ mo' b', fx = some V ∧ fm = some (V, σ) ∧ Inv x h n i d sf se mo' n.1 b' g w u t sk sm σ ∧ mo' 0 = mo 0) → ∃ (ux : Unit) (r : Int32) (um : Unit) (ρ2 : Rho), ckO ρ 2 x = some ux ∧ fx = some r ∧ ckO ρ 3 (x + 36) = some um ∧ fm = some (r, ρ2) ∧ Rel ρ2 x (x + 36) (x + 49) := by
    rintro fx fm ⟨V, σ, mo', b', h1, h2, I2, e0⟩
    exact ⟨(), V, (), σ, ckO_at I.X, h1, M0, h2, x, h, n, i, d, sf, se, mo', n.1, b', g, w, u, t, sk, sm, ⟨rfl, rfl, rfl⟩, I2, ⟨⟨g1, e0.trans g2⟩, ⟨rfl, ok, bt⟩, gi⟩, sh⟩
  refine fin ?_
  unfold fX9_lots fX10_lots
  rcases or_assoc.mpr (rng a1 (lo := 1) (hi := 20) (by omega) (by omega)) with c | ⟨N, hN1, hN, rfl⟩
  · refine ⟨-1, ρ, mo, b, ?_, ?_, I, rfl⟩
    · simp only [Option.bind_some, n10, if_false, show fX0_isWithin ρ a1 1 20 = some (nI 0) from x_within_out ρ c, z00, if_true]
    · simp only [Option.bind_some, n10, if_false, show fX10_isIn ρ a1 1 20 = some (nI 0) from m_isIn_out ρ c, z00, if_true]
  rcases or_assoc.mpr (rng a3 (lo := 0) (hi := 1) (by omega) (by omega)) with c | ⟨p, -, hp, rfl⟩
  · refine ⟨-1, ρ, mo, b, ?_, ?_, I, rfl⟩
    · simp only [Option.bind_some, n10, if_false, show fX0_isWithin ρ (nI N) 1 20 = some (nI 1) from x_within_in ρ (lo := 1) (hi := 20) hN1 hN (by omega), x_z1_out ρ c, z00, if_true]
    · simp only [Option.bind_some, n10, if_false, show fX10_isIn ρ (nI N) 1 20 = some (nI 1) from m_isIn_in ρ (lo := 1) (hi := 20) hN1 hN (by omega), show fX10_isIn ρ a3 0 1 = some (nI 0) from m_isIn_out ρ c, z00, if_true]
  obtain ⟨σ1, a1, a22, a33⟩ := I.O.pt (k := 11) (j := 5) (by omega) a2
  have I1 := I.uO (fun j hj hc => a22 (x + j) (by omega)) a33
  obtain ⟨V, σ, mo', b', q1, q2, q3, q4⟩ := s_lotsO (mo := mo) F bt ok N hN (nI p) N FU FU 0 (nI 0) (nI 0) a2 σ1 _ _ (by omega) (FU_gt (by omega)) (FU_gt (by omega)) I1 pk_us (pk_un (by omega))
  refine ⟨V, σ, mo', b', ?_, ?_, q3, q4⟩
  · unfold fX3_drawnYears
    simp only [Option.bind_some, n10, if_false, show fX0_isWithin ρ (nI N) 1 20 = some (nI 1) from x_within_in ρ (lo := 1) (hi := 20) hN1 hN (by omega), x_z1_in ρ hp, X1]
    rw [fa_lit 0, q1, Option.bind_some]
  · simp only [Option.bind_some, n10, if_false, show fX10_isIn ρ (nI N) 1 20 = some (nI 1) from m_isIn_in ρ (lo := 1) (hi := 20) hN1 hN (by omega), show fX10_isIn ρ (nI p) 0 1 = some (nI 1) from m_z1_in ρ hp, a1]
    exact q2
