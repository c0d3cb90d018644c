/-! PURE: shelves; cost, toss, whatWas, forged. -/
def SF (ρ : Rho) (x q : Nat) (sf se sk : Nat → Nat → Int32) (sm : Nat → Int32) (e : Nat) : Prop :=
  (ldR ρ (x + 19) (nI e) = some (x + 20 + 2 * e) ∧ ckO ρ 1 (x + 20 + 2 * e) = some () ∧ (gI ρ 1 (x + 20 + 2 * e) 0 = some (sf e 0) ∧ gI ρ 1 (x + 20 + 2 * e) 1 = some (sf e 1) ∧ gI ρ 1 (x + 20 + 2 * e) 2 = some (sf e 2) ∧ gI ρ 1 (x + 20 + 2 * e) 3 = some (sf e 3) ∧ gI ρ 1 (x + 20 + 2 * e) 4 = some (sf e 4)) ∧ gR ρ 1 (x + 20 + 2 * e) 5 = some (x + 21 + 2 * e) ∧ ∀ j, j < 100 → ldI ρ (x + 21 + 2 * e) (nI j) = some (se e j)) ∧
  (ldI ρ (x + 43) (nI e) = some (sk 0 e) ∧ ldI ρ (x + 44) (nI e) = some (sk 1 e) ∧ ldI ρ (x + 45) (nI e) = some (sk 2 e) ∧ ldI ρ (x + 46) (nI e) = some (sk 3 e) ∧ ldI ρ (x + 47) (nI e) = some (sk 4 e)) ∧ ∀ j, j < 100 → ldI ρ (x + 48) (nI (100 * e + j)) = some (sm (100 * e + j))
def SG (ρ : Rho) (x q : Nat) : Prop := gR ρ 2 x 3 = some (x + 19) ∧ gR ρ 3 q 12 = some (x + 43) ∧ gR ρ 3 q 13 = some (x + 44) ∧ gR ρ 3 q 14 = some (x + 45) ∧ gR ρ 3 q 15 = some (x + 46) ∧ gR ρ 3 q 16 = some (x + 47) ∧ gR ρ 3 q 17 = some (x + 48)
theorem SF.mk {ρ : Rho} {x q : Nat} {sf se sk : Nat → Nat → Int32} {sm : Nat → Int32} (h : ShX ρ x sf se) (g : ShM ρ x sk sm) {e : Nat} (he : e < 8) : SF ρ x q sf se sk sm e := by
  obtain ⟨⟨f, h0, h1⟩, h2⟩ := h
  obtain ⟨⟨k0, k1, k2, k3, k4⟩, k5⟩ := g
  obtain ⟨a1, a2⟩ := h2 e he
  refine ⟨⟨?_, ckO_at a1, ⟨gI_at a1 rfl, gI_at a1 rfl, gI_at a1 rfl, gI_at a1 rfl, gI_at a1 rfl⟩, gR_at a1 rfl, fun j hj => ldI_at a2 hj (by omega)⟩, ⟨ldI_at k0 he (by omega), ldI_at k1 he (by omega), ldI_at k2 he (by omega), ldI_at k3 he (by omega), ldI_at k4 he (by omega)⟩, fun j hj => ldI_at k5 (by omega) (by omega)⟩
  rw [ldR_at h0 he (by omega), h1 e he]
theorem Rel.s {ρ : Rho} {x q o : Nat} (h : Rel ρ x q o) : ∃ r B sf se sk sm, RC ρ x q r B ∧ SG ρ x q ∧ (∀ e, e < 8 → SF ρ x q sf se sk sm e) ∧ ShOK sf se sk sm := by
  obtain ⟨z, h, n, i, d, sf, se, mo, a, b, g, w, u, t, sk, sm, ⟨rfl, rfl, rfl⟩, I, ⟨g1, ⟨rfl, ok, bt⟩, g3⟩, sh⟩ := h
  exact ⟨n.1, n.2, sf, se, sk, sm, ⟨⟨ckO_at I.X, gR_at I.X rfl⟩, ⟨ckO_at I.O, gR_at I.O rfl⟩, I.N.f ok.1.1, I.A.f ok.1.1, bt, ok⟩, ⟨gR_at I.X rfl, gR_at I.O rfl, gR_at I.O rfl, gR_at I.O rfl, gR_at I.O rfl, gR_at I.O rfl, gR_at I.O rfl⟩, fun e he => SF.mk I.S I.K he, sh⟩
theorem x_shelf_in (ρ : Rho) {e : Nat} (he : e < 8) : fX9_isShelf ρ (nI e) = some (nI 1) := by
  unfold fX9_isShelf
  rw [if_neg (nI_pos (by omega)), if_neg (show ¬ (8 : Int32) ≤ nI e from nI_ge (b := 8) he (by omega))]
  rfl
theorem x_shelf_out (ρ : Rho) {v : Int32} (h : v < nI 0 ∨ nI 7 < v) : fX9_isShelf ρ v = some (nI 0) := by
  unfold fX9_isShelf
  by_cases c : v < 0
  · rw [if_pos c]; rfl
  · rw [if_neg c, if_pos]
    · rfl
    · have := h.resolve_left c
      rw [Int32.lt_iff_toInt_lt, nI_toInt (by omega)] at this
      rw [Int32.le_iff_toInt_le, show (8 : Int32).toInt = 8 from rfl]
      omega
theorem m_shelf_in (ρ : Rho) {e : Nat} (he : e < 8) : fX10_isShelf ρ (nI e) = some (nI 1) := by
  unfold fX10_isShelf
  rw [show fX10_isIn ρ (nI e) 0 7 = some (nI 1) from m_isIn_in ρ (lo := 0) (hi := 7) (by omega) (by omega) (by omega)]
  rfl
theorem m_shelf_out (ρ : Rho) {v : Int32} (h : v < nI 0 ∨ nI 7 < v) : fX10_isShelf ρ v = some (nI 0) := by
  unfold fX10_isShelf
  rw [show fX10_isIn ρ v 0 7 = some (nI 0) from m_isIn_out ρ h]
  rfl
theorem le00 : ((0 : Int32) ≤ 0) = True := by decide
def rvR (c : Nat) : Int32 := if c = 0 then -11 else if c = 2 then 0 else -12
def rvK (c : Nat) : Int32 := if c = 0 then -11 else if c = 1 then 0 else -12
theorem rvK1 : rvK 1 = 0 := rfl
theorem rvR2 : rvR 2 = 0 := rfl
section SH
variable {ρ : Rho} {x q e c : Nat} {sf se sk : Nat → Nat → Int32} {sm : Nat → Int32}
theorem x_refR (S : SF ρ x q sf se sk sm e) (hc : c ≤ 2) (h : sf e 0 = nI c) : fX6_refusalAsRow ρ (x + 20 + 2 * e) = some (rvR c) := by
  unfold fX6_refusalAsRow
  rw [S.1.2.2.1.1, h, Option.bind_some, Option.bind_some]
  rcases (show c = 0 ∨ c = 1 ∨ c = 2 by omega) with rfl | rfl | rfl <;> rfl
theorem x_refK (S : SF ρ x q sf se sk sm e) (hc : c ≤ 2) (h : sf e 0 = nI c) : fX6_refusalAsKind ρ (x + 20 + 2 * e) = some (rvK c) := by
  unfold fX6_refusalAsKind
  rw [S.1.2.2.1.1, h, Option.bind_some, Option.bind_some]
  rcases (show c = 0 ∨ c = 1 ∨ c = 2 by omega) with rfl | rfl | rfl <;> rfl
theorem m_wrK (T : SG ρ x q) (S : SF ρ x q sf se sk sm e) (he : e < 8) (hc : c ≤ 2) (h : sk 0 e = nI c) : fX10_wrongKept ρ q (nI e) = some (rvK c) := by
  unfold fX10_wrongKept
  simp only [Option.bind_some, n10, if_false, m_shelf_in ρ he, T.2.1, S.2.1.1, h]
  rcases (show c = 0 ∨ c = 1 ∨ c = 2 by omega) with rfl | rfl | rfl <;> rfl
theorem m_wrR (T : SG ρ x q) (S : SF ρ x q sf se sk sm e) (he : e < 8) (hc : c ≤ 2) (h : sk 0 e = nI c) : fX10_wrongRow ρ q (nI e) (-1) = some (rvR c) := by
  unfold fX10_wrongRow
  simp only [Option.bind_some, n10, if_false, m_shelf_in ρ he, T.2.1, S.2.1.1, h]
  rcases (show c = 0 ∨ c = 1 ∨ c = 2 by omega) with rfl | rfl | rfl <;> rfl
end SH
theorem m_wrK_out (ρ : Rho) (q : Nat) {v : Int32} (h : v < nI 0 ∨ nI 7 < v) : fX10_wrongKept ρ q v = some (-1) := by
  unfold fX10_wrongKept
  rw [m_shelf_out ρ h, Option.bind_some, if_pos nI_0]
theorem m_wrR_out (ρ : Rho) (q : Nat) {v : Int32} (k : Int32) (h : v < nI 0 ∨ nI 7 < v) : fX10_wrongRow ρ q v k = some (-1) := by
  unfold fX10_wrongRow
  rw [m_shelf_out ρ h, Option.bind_some, if_pos nI_0]
theorem toss_at : ∀ k, k < 8 → ∀ f, f < 10 → (if nI k = 2 then (some (-15)) else (if nI k = 7 then (some (-15)) else (if nI f = 0 then (some (-15)) else (if nI k = 4 then ((fX10_costBy ρN (nI k) (nI f)).bind fun x14 => some ((200 : Int32) + x14)) else ((fX10_isPainted ρN (nI k)).bind fun x12 => if x12 = 0 then (some (nI f)) else (some ((100 : Int32) + nI f))))))) = fX1_caughtFailure ρN (nI k) (nI f) ∧ (fX1_caughtFailure ρN (nI k) (nI f)).isSome = true := by decide +kernel
theorem sh_c {sf se sk : Nat → Nat → Int32} {sm : Nat → Int32} (sh : ShOK sf se sk sm) {e : Nat} (he : e < 8) : ∃ c, c ≤ 2 ∧ sf e 0 = nI c ∧ sk 0 e = nI c := by
  rcases sh e he with ⟨h1, h2⟩ | ⟨h1, h2, -⟩ | ⟨h1, h2, -⟩
  · exact ⟨0, by omega, h1, h2⟩
  · exact ⟨1, by omega, h1, h2⟩
  · exact ⟨2, by omega, h1, h2⟩
theorem sh_k {sf se sk : Nat → Nat → Int32} {sm : Nat → Int32} (sh : ShOK sf se sk sm) {e : Nat} (he : e < 8) (h : sf e 0 = nI 1) : ∃ k f : Nat, (k < 8 ∧ f < 10) ∧ sf e 1 = nI k ∧ sf e 2 = nI f ∧ sk 1 e = nI k ∧ sk 2 e = nI f := by
  rcases sh e he with ⟨h1, h2⟩ | ⟨h1, h2, h3⟩ | ⟨h1, h2, -⟩
  · rw [h1] at h; exact absurd h (by decide)
  · exact h3
  · rw [h1] at h; exact absurd h (by decide)
theorem sh_r {sf se sk : Nat → Nat → Int32} {sm : Nat → Int32} (sh : ShOK sf se sk sm) {e : Nat} (he : e < 8) (h : sf e 0 = nI 2) : ∃ so len : Nat, (so ≤ 2 ∧ len ≤ 100) ∧ sf e 3 = nI so ∧ sf e 4 = nI len ∧ sk 3 e = nI so ∧ sk 4 e = nI len ∧ (∀ j, j < 100 → se e j = sm (100 * e + j)) ∧ (so = 0 → ∀ j, j < 100 → -128 ≤ (se e j).toInt ∧ (se e j).toInt ≤ 127) := by
  rcases sh e he with ⟨h1, h2⟩ | ⟨h1, h2, -⟩ | ⟨h1, h2, h3⟩
  · rw [h1] at h; exact absurd h (by decide)
  · rw [h1] at h; exact absurd h (by decide)
  · exact h3
theorem sim_cost : Sim_cost Rel := by
  intro ρ z x q o a1 hR hf
  obtain ⟨r, B, sf, se, sk, sm, ⟨⟨X0, X1⟩, ⟨M0, M1⟩, F, G, bt, ok⟩, T, S, sh⟩ := hR.s
  refine rr hR ?_
  unfold fX9_cost fX10_cost
  rcases or_assoc.mpr (rng a1 (lo := 0) (hi := 7) (by omega) (by omega)) with d | ⟨e, -, he, rfl⟩
  · rw [x_shelf_out ρ d, M0, Option.bind_some, Option.bind_some, m_wrK_out ρ q d]
    exact ⟨_, rfl, rfl⟩
  have he : e < 8 := by omega
  have Se := S e he
  obtain ⟨c, hc, c1, c2⟩ := sh_c sh he
  rw [x_shelf_in ρ he, Option.bind_some, if_neg n10, T.1, Option.bind_some, Se.1.1, Option.bind_some, Se.1.2.1, Option.bind_some, x_refK Se hc c1, Option.bind_some, M0, Option.bind_some, m_wrK T Se he hc c2, Option.bind_some]
  rcases (show c = 0 ∨ c = 1 ∨ c = 2 by omega) with rfl | rfl | rfl
  · exact ⟨_, rfl, rfl⟩
  · obtain ⟨k, f, ⟨hk, hf⟩, e1, e2, e3, e4⟩ := sh_k sh he c1
    simp only [Option.bind_some, n10, if_false, rvK1, le00, if_true, Se.1.1, Se.1.2.2.1.2.1, e1, Se.1.2.2.1.2.2.1, e2, T.2.2.1, show fX1_price ρ = fX1_price ρN from rfl, lX_price _ hk _ hf, Se.2.1.2.1, e3, T.2.2.2.1, Se.2.1.2.2.1, e4, show fX10_costBy ρ = fX10_costBy ρN from rfl, lM_costBy _ hk _ hf]
    exact ⟨_, rfl, rfl⟩
  · exact ⟨_, rfl, rfl⟩
theorem sim_toss : Sim_toss Rel := by
  intro ρ z x q o a1 hR hf
  obtain ⟨r, B, sf, se, sk, sm, ⟨⟨X0, X1⟩, ⟨M0, M1⟩, F, G, bt, ok⟩, T, S, sh⟩ := hR.s
  refine rr hR ?_
  unfold fX9_toss fX10_toss
  rcases or_assoc.mpr (rng a1 (lo := 0) (hi := 7) (by omega) (by omega)) with d | ⟨e, -, he, rfl⟩
  · rw [x_shelf_out ρ d, M0, Option.bind_some, Option.bind_some, m_wrK_out ρ q d]
    exact ⟨_, rfl, rfl⟩
  have he : e < 8 := by omega
  have Se := S e he
  obtain ⟨c, hc, c1, c2⟩ := sh_c sh he
  rw [x_shelf_in ρ he, Option.bind_some, if_neg n10, T.1, Option.bind_some, Se.1.1, Option.bind_some, Se.1.2.1, Option.bind_some, x_refK Se hc c1, Option.bind_some, M0, Option.bind_some, m_wrK T Se he hc c2, Option.bind_some]
  rcases (show c = 0 ∨ c = 1 ∨ c = 2 by omega) with rfl | rfl | rfl
  · exact ⟨_, rfl, rfl⟩
  · obtain ⟨k, f, ⟨hk, hf⟩, e1, e2, e3, e4⟩ := sh_k sh he c1
    obtain ⟨t1, t2⟩ := toss_at k hk f hf
    obtain ⟨V, hV⟩ := Option.isSome_iff_exists.mp t2
    simp only [Option.bind_some, n10, if_false, rvK1, le00, if_true, Se.1.1, Se.1.2.2.1.2.1, e1, Se.1.2.2.1.2.2.1, e2, T.2.2.1, show fX1_caughtFailure ρ = fX1_caughtFailure ρN from rfl, hV, Se.2.1.2.1, e3, T.2.2.2.1, Se.2.1.2.2.1, e4]
    exact ⟨V, rfl, t1.trans hV⟩
  · exact ⟨_, rfl, rfl⟩
