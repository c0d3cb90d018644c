/-! PURE: row, put, element. -/
theorem x_sort_in (ρ : Rho) {s : Nat} (h : s ≤ 2) : fX6_isSort ρ (nI s) = some (nI 1) := by
  rcases (show s = 0 ∨ s = 1 ∨ s = 2 by omega) with rfl | rfl | rfl <;> rfl
theorem x_sort_out (ρ : Rho) {v : Int32} (h : v < nI 0 ∨ nI 2 < v) : fX6_isSort ρ v = some (nI 0) := by
  unfold fX6_isSort
  rw [if_neg (show ¬ v = (0 : Int32) from of_eq_false (ne_out h (show 0 ≤ 2 by omega) (by omega))), if_neg (show ¬ v = (1 : Int32) from of_eq_false (ne_out h (show 1 ≤ 2 by omega) (by omega))), if_neg (show ¬ v = (2 : Int32) from of_eq_false (ne_out h (show 2 ≤ 2 by omega) (by omega)))]
  rfl
theorem x_zero {ρ : Rho} {x e : Nat} {sf se : Nat → Nat → Int32} (H : ShX ρ x sf se) (he : e < 8) : ∃ ρ' se', fX6_holdRow_17 FU ρ (x + 20 + 2 * e) (nI 0) = some ρ' ∧ Fr ρ ρ' (x + 19) 17 ∧ ShX ρ' x sf se' ∧ (∀ j, j < 100 → se' e j = nI 0) ∧ ∀ e', e' ≠ e → ∀ j, se' e' j = se e' j := by
  have key : ∀ k n i σ se1, i + k = 100 → k < n → Fr ρ σ (x + 19) 17 → ShX σ x sf se1 → (∀ j, j < i → se1 e j = nI 0) → (∀ e', e' ≠ e → ∀ j, se1 e' j = se e' j) → ∃ ρ' se', fX6_holdRow_17 n σ (x + 20 + 2 * e) (nI i) = some ρ' ∧ Fr ρ ρ' (x + 19) 17 ∧ ShX ρ' x sf se' ∧ (∀ j, j < 100 → se' e j = nI 0) ∧ ∀ e', e' ≠ e → ∀ j, se' e' j = se e' j := by
    intro k
    induction k with
    | zero =>
      intro n i σ se1 hi hn fr hs h1 h2
      obtain ⟨n, rfl⟩ : ∃ p0, n = p0 + 1 := ⟨n - 1, by omega⟩
      obtain rfl : i = 100 := by omega
      rw [fX6_holdRow_17, if_pos (show (100 : Int32) ≤ nI 100 by decide)]
      exact ⟨σ, se1, rfl, fr, hs, h1, h2⟩
    | succ k ih =>
      intro n i σ se1 hi hn fr hs h1 h2
      obtain ⟨n, rfl⟩ : ∃ p0, n = p0 + 1 := ⟨n - 1, by omega⟩
      have hlt : i < 100 := by omega
      obtain ⟨σ1, a1, a2, a3⟩ := hs.pe he hlt (nI 0)
      rw [fX6_holdRow_17, if_neg (show ¬ (100 : Int32) ≤ nI i from nI_ge (b := 100) hlt (by omega)), gR_at (hs.2 e he).1 (show _ = some (Value.ref (x + 21 + 2 * e)) from rfl), Option.bind_some, fa_lit 0, a1, Option.bind_some, nI_1]
      refine ih n (i + 1) σ1 _ (by omega) (by omega) (fr.tr a2) a3 (fun j hj => ?_) (fun e' c j => ?_)
      · by_cases c : j = i
        · rw [c, upE_s]
        · rw [upE_n (Or.inr c)]; exact h1 j (by omega)
      · rw [upE_n (Or.inl c)]; exact h2 e' c j
  exact key 100 FU 0 ρ se (by omega) (FU_gt (by omega)) Fr.rf H (fun j hj => absurd hj (by omega)) (fun _ _ _ => rfl)
theorem m_zero {ρ : Rho} {x e : Nat} {sk : Nat → Nat → Int32} {sm mo : Nat → Int32} (H : ShM ρ x sk sm) (O : MO ρ x mo) (he : e < 8) : ∃ ρ' sm', fX10_row_55 FU ρ (x + 36) (nI e) (nI 0) = some (0, ρ') ∧ Fr ρ ρ' (x + 43) 6 ∧ ShM ρ' x sk sm' ∧ (∀ j, j < 100 → sm' (100 * e + j) = nI 0) ∧ ∀ e', e' ≠ e → ∀ j, j < 100 → sm' (100 * e' + j) = sm (100 * e' + j) := by
  have key : ∀ k n i σ sm1, i + k = 100 → k < n → Fr ρ σ (x + 43) 6 → ShM σ x sk sm1 → (∀ j, j < i → sm1 (100 * e + j) = nI 0) → (∀ e', e' ≠ e → ∀ j, j < 100 → sm1 (100 * e' + j) = sm (100 * e' + j)) → ∃ ρ' sm', fX10_row_55 n σ (x + 36) (nI e) (nI i) = some (0, ρ') ∧ Fr ρ ρ' (x + 43) 6 ∧ ShM ρ' x sk sm' ∧ (∀ j, j < 100 → sm' (100 * e + j) = nI 0) ∧ ∀ e', e' ≠ e → ∀ j, j < 100 → sm' (100 * e' + j) = sm (100 * e' + j) := by
    intro k
    induction k with
    | zero =>
      intro n i σ sm1 hi hn fr hs h1 h2
      obtain ⟨n, rfl⟩ : ∃ p0, n = p0 + 1 := ⟨n - 1, by omega⟩
      obtain rfl : i = 100 := by omega
      rw [fX10_row_55, if_pos (show (100 : Int32) ≤ nI 100 by decide)]
      exact ⟨σ, sm1, rfl, fr, hs, h1, h2⟩
    | succ k ih =>
      intro n i σ sm1 hi hn fr hs h1 h2
      obtain ⟨n, rfl⟩ : ∃ p0, n = p0 + 1 := ⟨n - 1, by omega⟩
      have hlt : i < 100 := by omega
      have O2 : MO σ x mo := (fr (x + 36) (by omega)).trans O
      obtain ⟨σ1, a1, a2, a3⟩ := hs.pm (j := 100 * e + i) (by omega) (nI 0)
      rw [fX10_row_55, if_neg (show ¬ (100 : Int32) ≤ nI i from nI_ge (b := 100) hlt (by omega)), O2.k17, Option.bind_some, fa_lit 100, pk_mul, nI_add, fa_lit 0, a1, Option.bind_some, nI_1]
      refine ih n (i + 1) σ1 _ (by omega) (by omega) (fr.tr a2) a3 (fun j hj => ?_) (fun e' c j hj => ?_)
      · by_cases c : j = i
        · rw [c, pk_us]
        · rw [pk_un (by omega)]; exact h1 j (by omega)
      · rw [pk_un (by omega)]; exact h2 e' c j hj
  exact key 100 FU 0 ρ sm (by omega) (FU_gt (by omega)) Fr.rf H (fun j hj => absurd hj (by omega)) (fun _ _ _ _ => rfl)
theorem sim_row : Sim_row Rel := by
  intro ρ z0 x q o a1 a2 a3 hR hf
  obtain ⟨z, h, n, i, d, sf, se, mo, a, b, g, w, u, t, sk, sm, ⟨hx, hq, ho⟩, I, gd, sh⟩ := id hR
  subst hq ho
  subst hx
  obtain ⟨⟨g1, g2⟩, ⟨ea, ok, bt⟩, gi⟩ := id gd
  have hA : ArrR ρ (x + 37) n.1 := ea ▸ I.A
  have F := I.N.f ok.1.1
  have G := hA.f ok.1.1
  have X1 : gR ρ 2 x 0 = some (x + 1) := gR_at I.X rfl
  have M0 : ckO ρ 3 (x + 36) = some () := ckO_at I.O
  have M1 : gR ρ 3 (x + 36) 0 = some (x + 37) := gR_at I.O rfl
  have T := I.sg
  rcases or_assoc.mpr (rng a1 (lo := 0) (hi := 7) (by omega) (by omega)) with c | ⟨e, -, he, rfl⟩
  · refine ww0 hR (fm := fun ρ => fX10_row ρ (x + 36) a1 a2 a3) ⟨-1, ?_, ?_⟩
    · unfold fX9_row
      rw [x_shelf_out ρ c, Option.bind_some, if_pos nI_0]
    · show fX10_row ρ (x + 36) a1 a2 a3 = _
      unfold fX10_row
      rw [m_shelf_out ρ c, Option.bind_some, if_pos nI_0]
  have he : e < 8 := by omega
  have Se : SF ρ x (x + 36) sf se sk sm e := SF.mk I.S I.K he
  rcases or_assoc.mpr (rng a2 (lo := 0) (hi := 2) (by omega) (by omega)) with c | ⟨s, -, hs, rfl⟩
  · refine ww0 hR (fm := fun ρ => fX10_row ρ (x + 36) (nI e) a2 a3) ⟨-1, ?_, ?_⟩
    · unfold fX9_row
      simp only [Option.bind_some, n10, if_false, x_shelf_in ρ he, x_sort_out ρ c, z00, if_true]
    · show fX10_row ρ (x + 36) (nI e) a2 a3 = _
      unfold fX10_row
      simp only [Option.bind_some, n10, if_false, m_shelf_in ρ he, show fX10_isIn ρ a2 0 2 = some (nI 0) from m_isIn_out ρ c, z00, if_true]
  have i2 : ∀ ρ, fX10_isIn ρ (nI s) 0 2 = some (nI 1) := fun ρ => m_isIn_in ρ (lo := 0) (hi := 2) (by omega) hs (by omega)
  by_cases c100' : ¬ a3 ≤ 100
  · have c100 := c100'
    refine ww0 hR (fm := fun ρ => fX10_row ρ (x + 36) (nI e) (nI s) a3) ⟨-1, ?_, ?_⟩
    · unfold fX9_row
      simp only [Option.bind_some, n10, if_false, x_shelf_in ρ he, x_sort_in ρ hs, c100]
    · show fX10_row ρ (x + 36) (nI e) (nI s) a3 = _
      unfold fX10_row
      simp only [Option.bind_some, n10, if_false, m_shelf_in ρ he, i2, c100]
  have c100 : a3 ≤ 100 := Classical.not_not.mp c100'
  by_cases c0' : ¬ (0 : Int32) ≤ a3
  · have c0 := c0'
    refine ww0 hR (fm := fun ρ => fX10_row ρ (x + 36) (nI e) (nI s) a3) ⟨-14, ?_, ?_⟩
    · unfold fX9_row
      simp only [Option.bind_some, n10, if_false, x_shelf_in ρ he, x_sort_in ρ hs, c100, c0, if_true]
    · show fX10_row ρ (x + 36) (nI e) (nI s) a3 = _
      unfold fX10_row
      simp only [Option.bind_some, n10, if_false, m_shelf_in ρ he, i2, c100, c0, if_true]
  have c0 : (0 : Int32) ≤ a3 := Classical.not_not.mp c0'
  obtain ⟨N, hN, rfl⟩ : ∃ N, N ≤ 100 ∧ a3 = nI N := by
    refine nI_of2 (M := 100) (by rfl) (fun q => ?_) c100
    rw [Int32.lt_iff_toInt_lt] at q
    rw [Int32.le_iff_toInt_le] at c0
    omega
  obtain ⟨ρ1, ρ2, ρ3, b1, b2, b3, b4, b5⟩ := x_three I.S he (p1 := 0) (p2 := 3) (p3 := 4) (by omega) (by omega) (by omega) (nI 2) (nI s) (nI N)
  obtain ⟨ρ4, se', z1, z2, z3, z4, z5⟩ := x_zero b5 he
  -- the model's side, from any picture that differs in the shelves of the first alone
  have hm : ∃ sm', (∀ j, j < 100 → sm' (100 * e + j) = nI 0) ∧ (∀ e', e' ≠ e → ∀ j, j < 100 → sm' (100 * e' + j) = sm (100 * e' + j)) ∧ ∃ τ, fX10_row ρ4 (x + 36) (nI e) (nI s) (nI N) = some (0, τ) ∧ Fr ρ4 τ (x + 43) 6 ∧ ShM τ x (upE (upE (upE sk 0 e (nI 2)) 3 e (nI s)) 4 e (nI N)) sm' := by
    have I1 := I.uS (fun j hj hc => (b4.tr z2) (x + j) (by omega)) z3
    obtain ⟨σ1, σ2, σ3, c1, c2, c3, c4, c5, c6, c7, c8⟩ := m_three I1.K I1.O he (p1 := 0) (p2 := 3) (p3 := 4) (by omega) (by omega) (by omega) (nI 2) (nI s) (nI N)
    obtain ⟨τ, sm', w1, w2, w3, w4, w5⟩ := m_zero c8 c6 he
    refine ⟨sm', w4, w5, τ, ?_, c7.tr w2, w3⟩
    unfold fX10_row
    simp only [Option.bind_some, n10, if_false, m_shelf_in ρ4 he, i2, c100, c0, if_true, I1.O.k12, show stI ρ4 (x + 43 + 0) (nI e) 2 = some σ1 from c1, c2.k15, c3, c4.k16, c5]
    exact w1
  obtain ⟨sm', w4, w5, τ, t1, t2, t3⟩ := hm
  have sh' : ShOK (upE (upE (upE sf e 0 (nI 2)) e 3 (nI s)) e 4 (nI N)) se' (upE (upE (upE sk 0 e (nI 2)) 3 e (nI s)) 4 e (nI N)) sm' := by
    refine sh.up (e := e) (Or.inr (Or.inr ⟨?_, ?_, s, N, ⟨hs, hN⟩, ?_, ?_, ?_, ?_, fun j hj => ?_, fun _ j hj => ?_⟩)) (fun e' c k => ?_) z5 (fun e' c k => ?_) w5
    · rw [upE_n (by omega), upE_n (by omega), upE_s]
    · rw [upE_n (by omega), upE_n (by omega), upE_s]
    · rw [upE_n (by omega), upE_s]
    · rw [upE_s]
    · rw [upE_n (by omega), upE_s]
    · rw [upE_s]
    · rw [z4 j hj, w4 j hj]
    · rw [z4 j hj]; decide
    · rw [upE_n (Or.inl c), upE_n (Or.inl c), upE_n (Or.inl c)]
    · rw [upE_n (Or.inr c), upE_n (Or.inr c), upE_n (Or.inr c)]
  have I1 := I.uS (fun j hj hc => (b4.tr z2) (x + j) (by omega)) z3
  have I2 := I1.uK (fun j hj hc => t2 (x + j) (by omega)) t3
  refine ⟨(), 0, ρ4, (), τ, ckO_at I.X, ?_, ckO_at I1.O, t1, x, h, n, i, d, _, _, mo, a, b, g, w, u, t, _, _, ⟨rfl, rfl, rfl⟩, I2, gd, sh'⟩
  unfold fX9_row fX6_holdRow
  simp only [Option.bind_some, n10, if_false, x_shelf_in ρ he, x_sort_in ρ hs, c100, c0, if_true, T.1, Se.1.1, Se.1.2.1, show ptV ρ 1 (x + 20 + 2 * e) 0 (.int 2) = some ρ1 from b1, b2, b3]
  rw [fa_lit 0, z1, Option.bind_some]
theorem m_lt_in (ρ : Rho) {j L : Nat} (h : j < L) (hL : L < 2 ^ 31) : fX10_isIn ρ (nI j) 0 (nI L - 1) = some (nI 1) := by
  obtain ⟨p, rfl⟩ : ∃ p, L = p + 1 := ⟨L - 1, by omega⟩
  rw [nI_pred]
  exact m_isIn_in ρ (lo := 0) (by omega) (by omega) (by omega)
theorem m_lt_out (ρ : Rho) {v : Int32} {L : Nat} (h : v < nI 0 ∨ nI L ≤ v) (hL : L < 2 ^ 31) : fX10_isIn ρ v 0 (nI L - 1) = some (nI 0) := by
  apply m_isIn_out
  rcases h with h | h
  · exact Or.inl h
  · right
    rw [Int32.lt_iff_toInt_lt]
    rw [Int32.le_iff_toInt_le, nI_toInt hL] at h
    rcases Nat.eq_zero_or_pos L with e | e
    · rw [e] at h ⊢
      rw [show (nI 0 - 1 : Int32).toInt = -1 from by decide]
      omega
    · obtain ⟨p, rfl⟩ : ∃ p, L = p + 1 := ⟨L - 1, by omega⟩
      rw [nI_pred, nI_toInt (by omega)]
      omega
theorem x_place_in {ρ : Rho} {x q e len j : Nat} {sf se sk : Nat → Nat → Int32} {sm : Nat → Int32} (S : SF ρ x q sf se sk sm e) (h4 : sf e 4 = nI len) (hl : len ≤ 100) (hj : j < len) : fX6_isPlace ρ (x + 20 + 2 * e) (nI j) = some (nI 1) := by
  unfold fX6_isPlace
  rw [if_neg (nI_pos (by omega)), S.1.2.2.1.2.2.2.2, h4, Option.bind_some, if_neg (nI_ge hj (by omega))]
  rfl
theorem x_place_out {ρ : Rho} {x q e len : Nat} {sf se sk : Nat → Nat → Int32} {sm : Nat → Int32} (S : SF ρ x q sf se sk sm e) (h4 : sf e 4 = nI len) {v : Int32} (h : v < nI 0 ∨ nI len ≤ v) : fX6_isPlace ρ (x + 20 + 2 * e) v = some (nI 0) := by
  unfold fX6_isPlace
  by_cases c : v < 0
  · rw [if_pos c]; rfl
  · rw [if_neg c, S.1.2.2.1.2.2.2.2, h4, Option.bind_some, if_pos (h.resolve_left c)]; rfl
def wrV (so : Nat) (v : Int32) : Int32 := if so = 0 then v.toInt8.toInt32 else if so = 1 then v.toInt16.toInt32 else v
theorem wrV_b (v : Int32) : -128 ≤ (wrV 0 v).toInt ∧ (wrV 0 v).toInt ≤ 127 := by
  have h1 := Int8.le_toInt v.toInt8
  have h2 := Int8.toInt_le v.toInt8
  have h3 : Int8.maxValue.toInt = 127 := by decide
  have h4 : Int8.minValue.toInt = -128 := by decide
  show -128 ≤ (v.toInt8.toInt32).toInt ∧ (v.toInt8.toInt32).toInt ≤ 127
  rw [Int8.toInt_toInt32]
  omega
theorem sim_put : Sim_put Rel := by
  intro ρ z0 x q o a1 a2 a3 hR hf
  obtain ⟨z, h, n, i, d, sf, se, mo, a, b, g, w, u, t, sk, sm, ⟨hx, hq, ho⟩, I, gd, sh⟩ := id hR
  subst hq ho
  subst hx
  obtain ⟨⟨g1, g2⟩, ⟨ea, ok, bt⟩, gi⟩ := id gd
  have hA : ArrR ρ (x + 37) n.1 := ea ▸ I.A
  have F := I.N.f ok.1.1
  have G := hA.f ok.1.1
  have X1 : gR ρ 2 x 0 = some (x + 1) := gR_at I.X rfl
  have M0 : ckO ρ 3 (x + 36) = some () := ckO_at I.O
  have M1 : gR ρ 3 (x + 36) 0 = some (x + 37) := gR_at I.O rfl
  have T := I.sg
  rcases or_assoc.mpr (rng a1 (lo := 0) (hi := 7) (by omega) (by omega)) with c | ⟨e, -, he, rfl⟩
  · refine ww0 hR (fm := fun ρ => fX10_put ρ (x + 36) a1 a2 a3) ⟨-1, ?_, ?_⟩
    · unfold fX9_put
      rw [x_shelf_out ρ c, Option.bind_some, if_pos nI_0]
    · show fX10_put ρ (x + 36) a1 a2 a3 = _
      unfold fX10_put
      simp only [Option.bind_some, n10, if_false, M0, m_wrR_out ρ (x + 36) (-1) c, show ¬ ((-1 : Int32) = 0) by decide]
  have he : e < 8 := by omega
  have Se : SF ρ x (x + 36) sf se sk sm e := SF.mk I.S I.K he
  obtain ⟨cc, hc, c1, c2⟩ := sh_c sh he
  rcases (show cc = 0 ∨ cc = 1 ∨ cc = 2 by omega) with rfl | rfl | rfl
  · refine ww0 hR (fm := fun ρ => fX10_put ρ (x + 36) (nI e) a2 a3) ⟨-11, ?_, ?_⟩
    · unfold fX9_put
      simp only [Option.bind_some, n10, if_false, x_shelf_in ρ he, T.1, Se.1.1, Se.1.2.1, x_refR Se hc c1, show rvR 0 = -11 from rfl, show ¬ ((0 : Int32) ≤ -11) by decide]
    · show fX10_put ρ (x + 36) (nI e) a2 a3 = _
      unfold fX10_put
      simp only [Option.bind_some, n10, if_false, M0, m_wrR T Se he hc c2, show rvR 0 = -11 from rfl, show ¬ ((-11 : Int32) = 0) by decide]
  · refine ww0 hR (fm := fun ρ => fX10_put ρ (x + 36) (nI e) a2 a3) ⟨-12, ?_, ?_⟩
    · unfold fX9_put
      simp only [Option.bind_some, n10, if_false, x_shelf_in ρ he, T.1, Se.1.1, Se.1.2.1, x_refR Se hc c1, show rvR 1 = -12 from rfl, show ¬ ((0 : Int32) ≤ -12) by decide]
    · show fX10_put ρ (x + 36) (nI e) a2 a3 = _
      unfold fX10_put
      simp only [Option.bind_some, n10, if_false, M0, m_wrR T Se he hc c2, show rvR 1 = -12 from rfl, show ¬ ((-12 : Int32) = 0) by decide]
  obtain ⟨so, len, ⟨hso, hlen⟩, x3, x4, k3, k4, hE, hB⟩ := sh_r sh he c1
  rcases or_assoc.mpr (rng0 a2 (n := len) (by omega)) with c | ⟨j, hj, rfl⟩
  · refine ww0 hR (fm := fun ρ => fX10_put ρ (x + 36) (nI e) a2 a3) ⟨-13, ?_, ?_⟩
    · unfold fX9_put
      simp only [Option.bind_some, n10, if_false, x_shelf_in ρ he, T.1, Se.1.1, Se.1.2.1, x_refR Se hc c1, rvR2, le00, if_true, x_place_out Se x4 c, z00]
    · show fX10_put ρ (x + 36) (nI e) a2 a3 = _
      unfold fX10_put
      simp only [Option.bind_some, n10, if_false, M0, m_wrR T Se he hc c2, rvR2, if_true, T.2.2.2.2.2.1, Se.2.1.2.2.2.2, k4, m_lt_out ρ c (show len < 2 ^ 31 by omega), z00]
  obtain ⟨ρ1, b1, b2, b3⟩ := I.S.pe he (j := j) (by omega) (wrV so a3)
  refine wwS (fm := fun ρ => fX10_put ρ (x + 36) (nI e) (nI j) a3) I gd sf (upE se e j (wrV so a3)) sk (upd sm (100 * e + j) (wrV so a3)) ?_ 0 ⟨ρ1, ?_, b2, b3⟩ (fun ρ1 I1 => ?_)
  · refine sh.up (e := e) (Or.inr (Or.inr ⟨c1, c2, so, len, ⟨hso, hlen⟩, x3, x4, k3, k4, fun j' hj' => ?_, fun z j' hj' => ?_⟩)) (fun _ _ _ => rfl) (fun e' c k => upE_n (Or.inl c)) (fun _ _ _ => rfl) (fun e' c j' hj' => pk_un (by omega))
    · by_cases q : j' = j
      · rw [q, upE_s, pk_us]
      · rw [upE_n (Or.inr q), pk_un (by omega), hE j' hj']
    · by_cases q : j' = j
      · rw [q, upE_s, z]; exact wrV_b a3
      · rw [upE_n (Or.inr q)]; exact hB z j' hj'
  · unfold fX9_put fX6_write
    simp only [Option.bind_some, n10, if_false, x_shelf_in ρ he, T.1, Se.1.1, Se.1.2.1, x_refR Se hc c1, rvR2, le00, if_true, x_place_in Se x4 hlen hj, Se.1.2.2.1.2.2.2.1, x3, Se.1.2.2.2.1]
    rcases (show so = 0 ∨ so = 1 ∨ so = 2 by omega) with rfl | rfl | rfl
    · rw [if_pos nI_0, show stI ρ (x + 21 + 2 * e) (nI j) a3.toInt8.toInt32 = some ρ1 from b1]
      rfl
    · rw [if_neg n10, if_pos (show nI 1 = (1 : Int32) from rfl), show stI ρ (x + 21 + 2 * e) (nI j) a3.toInt16.toInt32 = some ρ1 from b1]
      rfl
    · rw [if_neg (show ¬ nI 2 = (0 : Int32) by decide), if_neg (show ¬ nI 2 = (1 : Int32) by decide), show stI ρ (x + 21 + 2 * e) (nI j) a3 = some ρ1 from b1]
      rfl
  · have T1 := I1.sg
    have S1 : SF ρ1 x (x + 36) sf _ sk sm e := SF.mk I1.S I1.K he
    obtain ⟨σ1, d1, d2, d3⟩ := I1.K.pm (j := 100 * e + j) (by omega) (wrV so a3)
    refine ⟨σ1, ?_, d2, d3⟩
    show fX10_put ρ1 (x + 36) (nI e) (nI j) a3 = _
    unfold fX10_put fX10_put_75
    simp only [Option.bind_some, n10, if_false, ckO_at I1.O, m_wrR T1 S1 he hc c2, rvR2, if_true, T1.2.2.2.2.2.1, S1.2.1.2.2.2.2, k4, m_lt_in ρ1 hj (show len < 2 ^ 31 by omega), T1.2.2.2.2.2.2, T1.2.2.2.2.1, S1.2.1.2.2.2.1, k3, fa_lit 100, pk_mul, nI_add]
    rcases (show so = 0 ∨ so = 1 ∨ so = 2 by omega) with rfl | rfl | rfl
    · rw [if_pos nI_0, show stI ρ1 (x + 48) (nI (100 * e + j)) a3.toInt8.toInt32 = some σ1 from d1]
      rfl
    · rw [if_neg n10, if_pos (show nI 1 = (1 : Int32) from rfl), show stI ρ1 (x + 48) (nI (100 * e + j)) a3.toInt16.toInt32 = some σ1 from d1]
      rfl
    · rw [if_neg (show ¬ nI 2 = (0 : Int32) by decide), if_neg (show ¬ nI 2 = (1 : Int32) by decide), show stI ρ1 (x + 48) (nI (100 * e + j)) a3 = some σ1 from d1]
      rfl
