/-! PURE: the calls that only read, first half. -/
def RC (ρ : Rho) (x q : Nat) (r : Nat → Nat) (B : Nat) : Prop := (ckO ρ 2 x = some () ∧ gR ρ 2 x 0 = some (x + 1)) ∧ (ckO ρ 3 q = some () ∧ gR ρ 3 q 0 = some (x + 37)) ∧ HouseF ρ (x + 1) r B ∧ ArrF ρ (x + 37) r ∧ BitsR r B ∧ OKr r
theorem Rel.c {ρ : Rho} {x q o : Nat} (h : Rel ρ x q o) : ∃ r B, RC ρ x q r B := by
  obtain ⟨z, h, n, i, d, sf, se, mo, a, b, g, w, u, t, sk, sm, ⟨rfl, rfl, rfl⟩, I, ⟨g1, ⟨rfl, ok, bt⟩, g3⟩, sh⟩ := h
  exact ⟨n.1, n.2, ⟨ckO_at I.X, gR_at I.X rfl⟩, ⟨ckO_at I.O, gR_at I.O rfl⟩, I.N.f ok.1.1, I.A.f ok.1.1, bt, ok⟩
theorem rr {α : Type} {ρ : Rho} {x q o : Nat} {fx fm : Option α} (hR : Rel ρ x q o) (h : ∃ v, fx = some v ∧ fm = some v) : ∃ (ux : Unit) (r : α) (um : Unit), ckO ρ 2 x = some ux ∧ fx = some r ∧ ckO ρ 3 q = some um ∧ fm = some r ∧ Rel ρ x q o := by
  obtain ⟨r, B, C⟩ := hR.c
  obtain ⟨v, h1, h2⟩ := h
  exact ⟨(), v, (), C.1.1, h1, C.2.1.1, h2, hR⟩
theorem c10 : (nI 1 = nI 0) = False := by decide
theorem c00 : (nI 0 = nI 0) = True := by decide
theorem cle {a b : Nat} (h : a ≤ b) (hb : b < 2 ^ 31) : (nI a ≤ nI b) = True := eq_true (nI_le h hb)
theorem cnle {a b : Nat} (h : b < a) (ha : a < 2 ^ 31) : (nI a ≤ nI b) = False := eq_false (nI_ge h ha)
theorem or0 (v : Int32) : v ||| nI 0 = v := Int32.or_zero
theorem z00 : (nI 0 = 0) = True := by decide
theorem n10b : ¬ nI 1 = nI 0 := by decide
theorem n10 : ¬ nI 1 = 0 := by decide
theorem drk_01 (r : Nat → Nat) (h : Nat) : drk r h = 0 ∨ drk r h = 1 := by
  unfold drk
  split
  · exact Or.inl rfl
  · exact Or.inr rfl
section RD
variable {ρ : Rho} {x q B : Nat} {r : Nat → Nat}
theorem s_dark (F : HouseF ρ (x + 1) r B) (bt : BitsR r B) (ok : OKr r) (M1 : gR ρ 3 q 0 = some (x + 37)) (G : ArrF ρ (x + 37) r) : ∃ v, fX2_darkHours ρ (x + 1) = some v ∧ fX10_dark ρ q = some v := by
  have key : ∀ k n m i v, i + k = 24 → k < n → k < m → ∃ V, fX2_darkHours_4 ρ n (x + 1) v (nI i) = some V ∧ fX10_dark_4 ρ m q v (nI i) = some V := by
    intro k
    induction k with
    | zero =>
      intro n m i v hi hn hm
      obtain ⟨n, rfl⟩ : ∃ p0, n = p0 + 1 := ⟨n - 1, by omega⟩
      obtain ⟨m, rfl⟩ : ∃ p0, m = p0 + 1 := ⟨m - 1, by omega⟩
      obtain rfl : i = 24 := by omega
      rw [fX2_darkHours_4, fX10_dark_4]
      exact ⟨v, rfl, rfl⟩
    | succ k ih =>
      intro n m i v hi hn hm
      obtain ⟨n, rfl⟩ : ∃ p0, n = p0 + 1 := ⟨n - 1, by omega⟩
      obtain ⟨m, rfl⟩ : ∃ p0, m = p0 + 1 := ⟨m - 1, by omega⟩
      have hlt : i < 24 := by omega
      rw [fX2_darkHours_4, fX10_dark_4]
      simp (disch := omega) only [Option.bind_some, fa_lit, nI_add, pk_mul, nI_leI, nI_ltI, nI_eq, nb_0, nb_1, if_true, if_false, cnle hlt, F.1.1, x_isAnyLacking F bt ok hlt, M1, m_isDark G ok hlt, fX2_darkHours_24, fX10_dark_29]
      rcases drk_01 r i with e | e
      · simp (disch := omega) only [Option.bind_some, fa_lit, nI_add, pk_mul, nI_leI, nI_ltI, nI_eq, nb_0, nb_1, if_true, if_false, e, c00]
        rw [or0]
        exact ih n m (i + 1) v (by omega) (by omega) (by omega)
      · simp (disch := omega) only [Option.bind_some, fa_lit, nI_add, pk_mul, nI_leI, nI_ltI, nI_eq, nb_0, nb_1, if_true, if_false, e, c10]
        exact ih n m (i + 1) _ (by omega) (by omega) (by omega)
  exact key 24 FU FU 0 0 (by omega) (FU_gt (by omega)) (FU_gt (by omega))

theorem s_darkest (F : HouseF ρ (x + 1) r B) (bt : BitsR r B) (ok : OKr r) (M1 : gR ρ 3 q 0 = some (x + 37)) (G : ArrF ρ (x + 37) r) : ∃ v, fX2_darkestHour ρ (x + 1) = some v ∧ fX10_darkest ρ q = some v := by
  have key : ∀ k n m i v, i + k = 24 → k < n → k < m → v < 24 → ∃ V, fX2_darkestHour_4 ρ n (x + 1) (nI v) (nI i) = some V ∧ fX10_darkest_4 ρ m q (nI v) (nI i) = some V := by
    intro k
    induction k with
    | zero =>
      intro n m i v hi hn hm
      obtain ⟨n, rfl⟩ : ∃ p0, n = p0 + 1 := ⟨n - 1, by omega⟩
      obtain ⟨m, rfl⟩ : ∃ p0, m = p0 + 1 := ⟨m - 1, by omega⟩
      obtain rfl : i = 24 := by omega
      rw [fX2_darkestHour_4, fX10_darkest_4]
      exact fun _ => ⟨_, rfl, rfl⟩
    | succ k ih =>
      intro n m i v hi hn hm
      obtain ⟨n, rfl⟩ : ∃ p0, n = p0 + 1 := ⟨n - 1, by omega⟩
      obtain ⟨m, rfl⟩ : ∃ p0, m = p0 + 1 := ⟨m - 1, by omega⟩
      have hlt : i < 24 := by omega
      rw [fX2_darkestHour_4, fX10_darkest_4]
      intro hv
      simp (disch := omega) only [Option.bind_some, fa_lit, nI_add, pk_mul, nI_leI, nI_ltI, nI_eq, nb_0, nb_1, if_true, if_false, cnle hlt, F.1.1, x_wholeLight F bt ok hlt, x_wholeLight F bt ok hv, M1, m_allLight G ok hlt, m_allLight G ok hv, fX2_darkestHour_25, fX10_darkest_31]
      split
      · exact ih n m (i + 1) v (by omega) (by omega) (by omega) hv
      · exact ih n m (i + 1) i (by omega) (by omega) (by omega) hlt
  exact key 23 FU FU 1 0 (by omega) (FU_gt (by omega)) (FU_gt (by omega)) (by omega)
theorem m_of0 (ρ : Rho) (w : Nat) : fX10_of ρ (nI w) (nI 0) = some (nI (9 + 5 * w)) := m_of ρ w 0
theorem m_win_in (M1 : gR ρ 3 q 0 = some (x + 37)) (G : ArrF ρ (x + 37) r) (ok : OKr r) {w : Nat} (hw : w < r 0) : fX10_isWindow ρ q (nI w) = some (nI 1) := by
  have h8 := ok.1.1
  unfold fX10_isWindow
  rw [M1, Option.bind_some, show (0 : Int32) = nI 0 from rfl, G.1 0 (by omega), Option.bind_some]
  obtain ⟨p, hp⟩ : ∃ p, r 0 = p + 1 := ⟨r 0 - 1, by omega⟩
  rw [hp, nI_pred, m_isIn_in ρ (by omega) (by omega) (by omega)]
  rfl
theorem m_win_out (M1 : gR ρ 3 q 0 = some (x + 37)) (G : ArrF ρ (x + 37) r) (ok : OKr r) {v : Int32} (h : v < nI 0 ∨ nI (r 0) ≤ v) : fX10_isWindow ρ q v = some (nI 0) := by
  have h8 := ok.1.1
  unfold fX10_isWindow
  rw [M1, Option.bind_some, show (0 : Int32) = nI 0 from rfl, G.1 0 (by omega), Option.bind_some, m_isIn_out]
  · rfl
  · rcases h with h | h
    · exact Or.inl h
    · right
      rw [Int32.lt_iff_toInt_lt]
      rw [Int32.le_iff_toInt_le, nI_toInt (by omega)] at h
      rcases Nat.eq_zero_or_pos (r 0) with e | e
      · rw [e] at h ⊢
        rw [show (nI 0 - 1 : Int32).toInt = -1 from by decide]
        omega
      · obtain ⟨p, hp⟩ : ∃ p, r 0 = p + 1 := ⟨r 0 - 1, by omega⟩
        rw [hp] at h ⊢
        rw [nI_pred, nI_toInt (by omega)]
        omega
end RD
theorem ne_out {v : Int32} {j hi : Nat} (h : v < nI 0 ∨ nI hi < v) (hj : j ≤ hi) (hh : hi < 2 ^ 31) : (v = nI j) = False := by
  apply eq_false
  rintro rfl
  rcases h with h | h
  · exact nI_nlt (Nat.zero_le j) (by omega) h
  · exact nI_nlt hj hh h
theorem x_z1_out (ρ : Rho) {v : Int32} (h : v < nI 0 ∨ nI 1 < v) : fX9_isZeroOrOne ρ v = some (nI 0) := by
  unfold fX9_isZeroOrOne
  simp (disch := omega) only [Option.bind_some, fa_lit, nI_add, pk_mul, nI_leI, nI_ltI, nI_eq, nb_0, nb_1, if_true, if_false, ne_out h (show 0 ≤ 1 by omega) (by omega), ne_out h (show 1 ≤ 1 by omega) (by omega)]
theorem x_z1_in (ρ : Rho) {j : Nat} (h : j ≤ 1) : fX9_isZeroOrOne ρ (nI j) = some (nI 1) := by
  rcases (show j = 0 ∨ j = 1 by omega) with rfl | rfl <;> rfl
theorem m_z1_in (ρ : Rho) {j : Nat} (h : j ≤ 1) : fX10_isIn ρ (nI j) (nI 0) (nI 1) = some (nI 1) := m_isIn_in ρ (by omega) h (by omega)
theorem sim_dark : Sim_dark Rel := by
  intro ρ z x q o  hR hf
  obtain ⟨r, B, ⟨X0, X1⟩, ⟨M0, M1⟩, F, G, bt, ok⟩ := hR.c
  refine rr hR ?_
  obtain ⟨v, h1, h2⟩ := s_dark F bt ok M1 G
  refine ⟨v, ?_, h2⟩
  unfold fX9_dark
  rw [X1, Option.bind_some, h1, Option.bind_some]
theorem sim_darkest : Sim_darkest Rel := by
  intro ρ z x q o  hR hf
  obtain ⟨r, B, ⟨X0, X1⟩, ⟨M0, M1⟩, F, G, bt, ok⟩ := hR.c
  refine rr hR ?_
  obtain ⟨v, h1, h2⟩ := s_darkest F bt ok M1 G
  refine ⟨v, ?_, h2⟩
  unfold fX9_darkest
  rw [X1, Option.bind_some, h1, Option.bind_some]
theorem sim_allDue : Sim_allDue Rel := by
  intro ρ z x q o  hR hf
  obtain ⟨r, B, ⟨X0, X1⟩, ⟨M0, M1⟩, F, G, bt, ok⟩ := hR.c
  refine rr hR ?_
  unfold fX9_allDue fX10_allDue
  rw [X1, M1, Option.bind_some, Option.bind_some, F.1.1, Option.bind_some, x_openDues F bt ok, m_duesOf G ok]
  exact ⟨_, rfl, rfl⟩
theorem sim_light : Sim_light Rel := by
  intro ρ z x q o a1 a2 hR hf
  obtain ⟨r, B, ⟨X0, X1⟩, ⟨M0, M1⟩, F, G, bt, ok⟩ := hR.c
  refine rr hR ?_
  unfold fX9_light fX10_light
  rcases or_assoc.mpr (rng a1 (lo := 0) (hi := 3) (by omega) (by omega)) with c | ⟨room, -, hr, rfl⟩
  · rw [x_room_out ρ c, m_room_out ρ c]
    exact ⟨_, rfl, rfl⟩
  rcases or_assoc.mpr (rng a2 (lo := 0) (hi := 23) (by omega) (by omega)) with c | ⟨h, -, hh, rfl⟩
  · rw [x_room_in ρ (show room < 4 by omega), m_room_in ρ (show room < 4 by omega), x_hour_out ρ c, m_hour_out ρ c]
    exact ⟨_, rfl, rfl⟩
  · simp (disch := omega) only [Option.bind_some, fa_lit, nI_add, pk_mul, nI_leI, nI_ltI, nI_eq, nb_0, nb_1, if_true, if_false, x_room_in ρ (show room < 4 by omega), m_room_in ρ (show room < 4 by omega), x_hour_in ρ (show h < 24 by omega), m_hour_in ρ (show h < 24 by omega), c10, X1, M1, F.1.1, x_roomLight F bt ok (show room < 4 by omega) (show h < 24 by omega), m_lightOf G ok (show room < 4 by omega) (show h < 24 by omega)]
    exact ⟨_, rfl, rfl⟩
theorem sim_window : Sim_window Rel := by
  intro ρ z x q o a1 a2 hR hf
  obtain ⟨r, B, ⟨X0, X1⟩, ⟨M0, M1⟩, F, G, bt, ok⟩ := hR.c
  refine rr hR ?_
  unfold fX9_window fX10_window
  rcases or_assoc.mpr (rng0 a1 (n := r 0) (have := ok.1.1; by omega)) with c | ⟨w, hw, rfl⟩
  · rw [X1, M0, Option.bind_some, Option.bind_some, F.1.1, Option.bind_some, x_win_out F c, m_win_out M1 G ok c]
    exact ⟨_, rfl, rfl⟩
  obtain ⟨k1, k2, k3, k4⟩ := F.2.2.1 w hw
  obtain ⟨g1, g2, g3, g4, g5⟩ := ok.2.2 w hw
  rcases or_assoc.mpr (rng a2 (lo := 0) (hi := 5) (by omega) (by omega)) with c | ⟨j, -, hj, rfl⟩
  · simp only [Option.bind_some, n10, if_false, X1, M0, F.1.1, x_win_in F ok hw, m_win_in M1 G ok hw, m_isIn_out ρ (v := a2) (lo := 0) (hi := 5) c]
    rw [if_neg (show ¬ a2 = (0 : Int32) from of_eq_false (ne_out c (show 0 ≤ 5 by omega) (by omega))), if_neg (show ¬ a2 = (1 : Int32) from of_eq_false (ne_out c (show 1 ≤ 5 by omega) (by omega))), if_neg (show ¬ a2 = (2 : Int32) from of_eq_false (ne_out c (show 2 ≤ 5 by omega) (by omega))), if_neg (show ¬ a2 = (3 : Int32) from of_eq_false (ne_out c (show 3 ≤ 5 by omega) (by omega))), if_neg (show ¬ a2 = (4 : Int32) from of_eq_false (ne_out c (show 4 ≤ 5 by omega) (by omega))), if_neg (show ¬ a2 = (5 : Int32) from of_eq_false (ne_out c (show 5 ≤ 5 by omega) (by omega)))]
    exact ⟨_, rfl, rfl⟩
  · simp only [Option.bind_some, n10, if_false, X1, M0, F.1.1, x_win_in F ok hw, m_win_in M1 G ok hw, show fX10_isIn ρ (nI j) 0 5 = some (nI 1) from m_isIn_in ρ (lo := 0) (hi := 5) (Nat.zero_le j) hj (by omega), M1]
    have G0 := G.2 w hw
    rcases (show j = 0 ∨ j = 1 ∨ j = 2 ∨ j = 3 ∨ j = 4 ∨ j = 5 by omega) with rfl | rfl | rfl | rfl | rfl | rfl
    · have Gk : ldI ρ (x + 37) (nI (9 + 5 * w)) = some (nI (r (9 + 5 * w))) := G0 0 (by omega)
      simp (disch := omega) only [Option.bind_some, fa_lit, nI_add, pk_mul, nI_leI, nI_ltI, nI_eq, nb_0, nb_1, if_true, if_false, F.1.2.1, k1, m_of, Nat.add_zero, Gk]
      exact ⟨_, rfl, rfl⟩
    · simp (disch := omega) only [Option.bind_some, fa_lit, nI_add, pk_mul, nI_leI, nI_ltI, nI_eq, nb_0, nb_1, if_true, if_false, F.1.2.2.1, k2, m_of, G0 1 (by omega)]
      exact ⟨_, rfl, rfl⟩
    · simp (disch := omega) only [Option.bind_some, fa_lit, nI_add, pk_mul, nI_leI, nI_ltI, nI_eq, nb_0, nb_1, if_true, if_false, F.1.2.2.2.1, k3, m_of, G0 2 (by omega)]
      exact ⟨_, rfl, rfl⟩
    · simp (disch := omega) only [Option.bind_some, fa_lit, nI_add, pk_mul, nI_leI, nI_ltI, nI_eq, nb_0, nb_1, if_true, if_false, F.1.2.2.2.2.1, k4, m_of, G0 3 (by omega)]
      exact ⟨_, rfl, rfl⟩
    · simp (disch := omega) only [Option.bind_some, fa_lit, nI_add, pk_mul, nI_leI, nI_ltI, nI_eq, nb_0, nb_1, if_true, if_false, x_isStopped F bt ok hw, m_of, G0 4 (by omega)]
      rcases (show r (9 + 5 * w + 4) = 0 ∨ r (9 + 5 * w + 4) = 1 by omega) with e | e <;> rw [e] <;> exact ⟨_, rfl, rfl⟩
    · have Gk : ldI ρ (x + 37) (nI (9 + 5 * w)) = some (nI (r (9 + 5 * w))) := G0 0 (by omega)
      simp (disch := omega) only [Option.bind_some, fa_lit, nI_add, pk_mul, nI_leI, nI_ltI, nI_eq, nb_0, nb_1, if_true, if_false, F.1.2.1, F.1.2.2.1, k1, k2, m_of, Nat.add_zero, Gk, G0 1 (by omega), show fX1_due ρ = fX1_due ρN from rfl, lX_due _ g1 _ g2, show fX10_dueBy ρ = fX10_dueBy ρN from rfl, lM_dueBy _ g1 _ g2]
      exact ⟨_, rfl, rfl⟩
theorem sim_at : Sim_at Rel := by
  intro ρ z x q o a1 a2 a3 hR hf
  obtain ⟨r, B, ⟨X0, X1⟩, ⟨M0, M1⟩, F, G, bt, ok⟩ := hR.c
  refine rr hR ?_
  unfold fX9_at fX10_at
  rcases or_assoc.mpr (rng0 a1 (n := r 0) (have := ok.1.1; by omega)) with c | ⟨w, hw, rfl⟩
  · rw [X1, M0, Option.bind_some, Option.bind_some, F.1.1, Option.bind_some, x_win_out F c, m_win_out M1 G ok c]
    exact ⟨_, rfl, rfl⟩
  rcases or_assoc.mpr (rng a2 (lo := 0) (hi := 23) (by omega) (by omega)) with c | ⟨h, -, hh, rfl⟩
  · simp only [Option.bind_some, n10, if_false, X1, M0, F.1.1, x_win_in F ok hw, m_win_in M1 G ok hw, x_hour_out ρ c, m_hour_out ρ c]
    exact ⟨_, rfl, rfl⟩
  rcases or_assoc.mpr (rng a3 (lo := 0) (hi := 2) (by omega) (by omega)) with c | ⟨j, -, hj, rfl⟩
  · simp (disch := omega) only [Option.bind_some, fa_lit, nI_add, pk_mul, nI_leI, nI_ltI, nI_eq, nb_0, nb_1, if_true, if_false, X1, M0, F.1.1, x_win_in F ok hw, m_win_in M1 G ok hw, c10, x_hour_in ρ (show h < 24 by omega), m_hour_in ρ (show h < 24 by omega), m_isIn_out ρ c, ne_out c (show 0 ≤ 2 by omega) (by omega), ne_out c (show 1 ≤ 2 by omega) (by omega), ne_out c (show 2 ≤ 2 by omega) (by omega)]
    exact ⟨_, rfl, rfl⟩
  · simp (disch := omega) only [Option.bind_some, fa_lit, nI_add, pk_mul, nI_leI, nI_ltI, nI_eq, nb_0, nb_1, if_true, if_false, X1, M0, F.1.1, x_win_in F ok hw, m_win_in M1 G ok hw, c10, x_hour_in ρ (show h < 24 by omega), m_hour_in ρ (show h < 24 by omega), m_isIn_in ρ (show 0 ≤ j by omega) hj (by omega), M1, x_shineOf F bt ok hw (show h < 24 by omega), m_shines G ok hw (show h < 24 by omega), x_isMoving F bt ok hw (show h < 24 by omega), m_moves G ok hw (show h < 24 by omega), x_seemingOf F bt ok hw (show h < 24 by omega), m_seems G ok hw (show h < 24 by omega)]
    rcases (show j = 0 ∨ j = 1 ∨ j = 2 by omega) with rfl | rfl | rfl
    · exact ⟨_, rfl, rfl⟩
    · have := mov_le (r := r) w h
      rcases (show mov r w h = 0 ∨ mov r w h = 1 by omega) with e | e <;> rw [e] <;> exact ⟨_, rfl, rfl⟩
    · exact ⟨_, rfl, rfl⟩
