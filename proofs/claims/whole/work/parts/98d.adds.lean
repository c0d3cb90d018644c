/-! PURE: a window more, years on; both sides. -/
theorem addW_ok {r : Nat → Nat} {k f room h : Nat} (ok : OKr r) (h7 : r 0 < 8) (hk : k < 8) (hf : f < 10) (hr : room < 4) (hh : h < 24) : OKr (addW r k f room h) := by
  obtain ⟨o1, o2, o3⟩ := ok
  have e : ∀ j, j ≠ 0 → (j < 9 ∨ ∃ w i, w < r 0 ∧ i < 5 ∧ j = 9 + 5 * w + i) → addW r k f room h j = r j := fun j h0 hj => by
    unfold addW
    rw [if_neg h0, if_neg, if_neg, if_neg, if_neg, if_neg]
    all_goals (rcases hj with g | ⟨w, i, g1, g2, g3⟩ <;> omega)
  refine ⟨?_, fun i hi => ?_, fun w hw => ?_⟩
  · rw [e 1 (by omega) (by omega), e 2 (by omega) (by omega), e 3 (by omega) (by omega), e 4 (by omega) (by omega), show addW r k f room h 0 = r 0 + 1 from rfl]
    omega
  · rw [e _ (by omega) (by omega)]
    exact o2 i hi
  · rw [show addW r k f room h 0 = r 0 + 1 from rfl] at hw
    by_cases c : w = r 0
    · unfold addW
      rw [c, if_neg (by omega), if_pos rfl, if_neg (by omega), if_neg (by omega), if_pos rfl, if_neg (by omega), if_neg (by omega), if_neg (by omega), if_pos rfl, if_neg (by omega), if_neg (by omega), if_neg (by omega), if_neg (by omega), if_pos rfl, if_neg (by omega), if_neg (by omega), if_neg (by omega), if_neg (by omega), if_neg (by omega), if_pos rfl]
      omega
    · rw [show 9 + 5 * w = 9 + 5 * w + 0 from rfl, e _ (by omega) (Or.inr ⟨w, 0, by omega, by omega, rfl⟩), show 9 + 5 * w + 0 = 9 + 5 * w from rfl, e _ (by omega) (Or.inr ⟨w, 1, by omega, by omega, rfl⟩), e _ (by omega) (Or.inr ⟨w, 2, by omega, by omega, rfl⟩), e _ (by omega) (Or.inr ⟨w, 3, by omega, by omega, rfl⟩), e _ (by omega) (Or.inr ⟨w, 4, by omega, by omega, rfl⟩)]
      exact o3 w (by omega)
theorem addW_bits {r : Nat → Nat} {B k f room h : Nat} (bt : BitsR r B) : BitsR (addW r k f room h) B := by
  obtain ⟨b1, b2⟩ := bt
  refine ⟨?_, fun w hw => ?_⟩
  · rw [show addW r k f room h 0 = r 0 + 1 from rfl, Nat.pow_succ]
    omega
  · rw [show addW r k f room h 0 = r 0 + 1 from rfl] at hw
    unfold addW
    by_cases c : w = r 0
    · rw [c, if_neg (by omega), if_neg (by omega), if_neg (by omega), if_neg (by omega), if_neg (by omega), if_pos rfl, Nat.div_eq_of_lt b1]
    · rw [if_neg (by omega), if_neg (by omega), if_neg (by omega), if_neg (by omega), if_neg (by omega), if_neg (by omega)]
      exact b2 w (by omega)
theorem x_kind_in (ρ : Rho) {k : Nat} (h : k < 8) : fX1_isKind ρ (nI k) = some (nI 1) := by
  unfold fX1_isKind
  rw [if_neg (nI_pos (by omega)), if_neg (show ¬ (8 : Int32) ≤ nI k from nI_ge (b := 8) h (by omega))]
  rfl
theorem upd_if {f : Nat → Int32} {k j : Nat} {x : Int32} : upd f k x j = if j = k then x else f j := by
  by_cases c : j = k
  · rw [c, pk_us, if_pos rfl]
  · rw [pk_un c, if_neg c]
theorem x_add {ρ : Rho} {a B : Nat} {r : Nat → Nat} {k f room h : Nat} (H : HouseR ρ a r B) (ok : OKr r) (h7 : r 0 < 8) (hk : k < 8) (hf : f < 10) (hr : room < 4) (hh : h < 24) : ∃ ρ', fX0_addWindow ρ a (nI k) (nI f) (nI room) (nI h) = some (nI (r 0), ρ') ∧ Fr ρ ρ' a 6 ∧ HouseR ρ' a (addW r k f room h) B := by
  obtain ⟨f1, f2, f3, f4, f5, h0, ⟨h1, h2, h3, h4, h5⟩, hw, hi⟩ := H
  unfold fX0_addWindow
  simp only [Option.bind_some, n10, if_false, x_kind_in ρ hk, x_fig_in ρ hf, x_room_in ρ hr, x_hour_in ρ hh]
  rw [gI_at h0 rfl, Option.bind_some, if_pos (show nI (r 0) < (8 : Int32) from nI_lt (b := 8) h7 (by omega)), gR_at h0 rfl, Option.bind_some, Option.bind_some, stI_at h1 h7 (by omega), Option.bind_some]
  have q1 : rset ρ (a + 1) (iC 8 (upd f1 (r 0) (nI k))) a = some _ := (rset_n (by omega)).trans h0
  have p2 : rset ρ (a + 1) (iC 8 (upd f1 (r 0) (nI k))) (a + 2) = some _ := (rset_n (by omega)).trans h2
  have p3 : rset ρ (a + 1) (iC 8 (upd f1 (r 0) (nI k))) (a + 3) = some _ := (rset_n (by omega)).trans h3
  have p4 : rset ρ (a + 1) (iC 8 (upd f1 (r 0) (nI k))) (a + 4) = some _ := (rset_n (by omega)).trans h4
  have p5 : rset ρ (a + 1) (iC 8 (upd f1 (r 0) (nI k))) (a + 5) = some _ := (rset_n (by omega)).trans h5
  have p1 : rset ρ (a + 1) (iC 8 (upd f1 (r 0) (nI k))) (a + 1) = some _ := rset_s
  have e1 : Fr ρ (rset ρ (a + 1) (iC 8 (upd f1 (r 0) (nI k)))) a 6 := Fr.set (by omega) (by omega)
  generalize rset ρ (a + 1) (iC 8 (upd f1 (r 0) (nI k))) = σ1 at *
  rw [gR_at q1 rfl, Option.bind_some, gI_at q1 rfl, Option.bind_some, stI_at p2 h7 (by omega), Option.bind_some]
  have q1 := (rset_n (ρ := σ1) (a := a + 2) (c := iC 8 (upd f2 (r 0) (nI f))) (b := a) (by omega)).trans q1
  have p1 := (rset_n (ρ := σ1) (a := a + 2) (c := iC 8 (upd f2 (r 0) (nI f))) (b := a + 1) (by omega)).trans p1
  have p3 := (rset_n (ρ := σ1) (a := a + 2) (c := iC 8 (upd f2 (r 0) (nI f))) (b := a + 3) (by omega)).trans p3
  have p4 := (rset_n (ρ := σ1) (a := a + 2) (c := iC 8 (upd f2 (r 0) (nI f))) (b := a + 4) (by omega)).trans p4
  have p5 := (rset_n (ρ := σ1) (a := a + 2) (c := iC 8 (upd f2 (r 0) (nI f))) (b := a + 5) (by omega)).trans p5
  have p2 : rset σ1 (a + 2) (iC 8 (upd f2 (r 0) (nI f))) (a + 2) = some _ := rset_s
  have e2 := e1.tr (Fr.set (ρ := σ1) (b := a + 2) (c := iC 8 (upd f2 (r 0) (nI f))) (by omega) (by omega))
  generalize rset σ1 (a + 2) (iC 8 (upd f2 (r 0) (nI f))) = σ2 at *
  rw [gR_at q1 rfl, Option.bind_some, gI_at q1 rfl, Option.bind_some, stI_at p3 h7 (by omega), Option.bind_some]
  have q1 := (rset_n (ρ := σ2) (a := a + 3) (c := iC 8 (upd f3 (r 0) (nI room))) (b := a) (by omega)).trans q1
  have p1 := (rset_n (ρ := σ2) (a := a + 3) (c := iC 8 (upd f3 (r 0) (nI room))) (b := a + 1) (by omega)).trans p1
  have p2 := (rset_n (ρ := σ2) (a := a + 3) (c := iC 8 (upd f3 (r 0) (nI room))) (b := a + 2) (by omega)).trans p2
  have p4 := (rset_n (ρ := σ2) (a := a + 3) (c := iC 8 (upd f3 (r 0) (nI room))) (b := a + 4) (by omega)).trans p4
  have p5 := (rset_n (ρ := σ2) (a := a + 3) (c := iC 8 (upd f3 (r 0) (nI room))) (b := a + 5) (by omega)).trans p5
  have p3 : rset σ2 (a + 3) (iC 8 (upd f3 (r 0) (nI room))) (a + 3) = some _ := rset_s
  have e3 := e2.tr (Fr.set (ρ := σ2) (b := a + 3) (c := iC 8 (upd f3 (r 0) (nI room))) (by omega) (by omega))
  generalize rset σ2 (a + 3) (iC 8 (upd f3 (r 0) (nI room))) = σ3 at *
  rw [gR_at q1 rfl, Option.bind_some, gI_at q1 rfl, Option.bind_some, stI_at p4 h7 (by omega), Option.bind_some]
  have q1 := (rset_n (ρ := σ3) (a := a + 4) (c := iC 8 (upd f4 (r 0) (nI h))) (b := a) (by omega)).trans q1
  have p1 := (rset_n (ρ := σ3) (a := a + 4) (c := iC 8 (upd f4 (r 0) (nI h))) (b := a + 1) (by omega)).trans p1
  have p2 := (rset_n (ρ := σ3) (a := a + 4) (c := iC 8 (upd f4 (r 0) (nI h))) (b := a + 2) (by omega)).trans p2
  have p3 := (rset_n (ρ := σ3) (a := a + 4) (c := iC 8 (upd f4 (r 0) (nI h))) (b := a + 3) (by omega)).trans p3
  have p5 := (rset_n (ρ := σ3) (a := a + 4) (c := iC 8 (upd f4 (r 0) (nI h))) (b := a + 5) (by omega)).trans p5
  have p4 : rset σ3 (a + 4) (iC 8 (upd f4 (r 0) (nI h))) (a + 4) = some _ := rset_s
  have e4 := e3.tr (Fr.set (ρ := σ3) (b := a + 4) (c := iC 8 (upd f4 (r 0) (nI h))) (by omega) (by omega))
  generalize rset σ3 (a + 4) (iC 8 (upd f4 (r 0) (nI h))) = σ4 at *
  obtain ⟨σ5, c5, e5, t5⟩ := ptS (k := 5) (v := .int (nI (r 0) + 1)) q1 (by show _ < 11; omega)
  rw [gI_at q1 rfl, Option.bind_some, c5, Option.bind_some, gI_at t5 rfl, Option.bind_some, nI_1, nI_pred]
  have en : ∀ j, j ≠ 0 → (j < 9 ∨ ∃ w i, w < r 0 ∧ i < 5 ∧ j = 9 + 5 * w + i) → addW r k f room h j = r j := fun j h0 hj => by
    unfold addW
    rw [if_neg h0, if_neg, if_neg, if_neg, if_neg, if_neg]
    all_goals (rcases hj with g | ⟨w, i, g1, g2, g3⟩ <;> omega)
  refine ⟨σ5, rfl, e4.tr (fun j hj => e5 j (by omega)), _, _, _, _, _, ?_, ⟨(e5 _ (by omega)).trans p1, (e5 _ (by omega)).trans p2, (e5 _ (by omega)).trans p3, (e5 _ (by omega)).trans p4, (e5 _ (by omega)).trans p5⟩, fun w hw2 => ?_, fun i hi2 => ?_⟩
  · rw [t5, en 1 (by omega) (by omega), en 2 (by omega) (by omega), en 3 (by omega) (by omega), en 4 (by omega) (by omega), show addW r k f room h 0 = r 0 + 1 from rfl, nI_1]
    rfl
  · rw [show addW r k f room h 0 = r 0 + 1 from rfl] at hw2
    by_cases c : w = r 0
    · rw [c, pk_us, pk_us, pk_us, pk_us]
      unfold addW
      rw [if_neg (by omega), if_pos rfl, if_neg (by omega), if_neg (by omega), if_pos rfl, if_neg (by omega), if_neg (by omega), if_neg (by omega), if_pos rfl, if_neg (by omega), if_neg (by omega), if_neg (by omega), if_neg (by omega), if_pos rfl]
      exact ⟨rfl, rfl, rfl, rfl⟩
    · rw [pk_un c, pk_un c, pk_un c, pk_un c, show 9 + 5 * w = 9 + 5 * w + 0 from rfl, en _ (by omega) (Or.inr ⟨w, 0, by omega, by omega, rfl⟩), show 9 + 5 * w + 0 = 9 + 5 * w from rfl, en _ (by omega) (Or.inr ⟨w, 1, by omega, by omega, rfl⟩), en _ (by omega) (Or.inr ⟨w, 2, by omega, by omega, rfl⟩), en _ (by omega) (Or.inr ⟨w, 3, by omega, by omega, rfl⟩)]
      exact hw w (by omega)
  · rw [en _ (by omega) (by omega)]
    exact hi i hi2
theorem m_adds {ρ : Rho} {z : Nat} {r : Nat → Nat} {mo : Nat → Int32} {k f room h : Nat} (H : ArrR ρ (z + 37) r) (O : MO ρ z mo) (h7 : r 0 < 8) : ∃ ρ', fX10_adds ρ (z + 36) (nI k) (nI f) (nI room) (nI h) = some ρ' ∧ Fr ρ ρ' (z + 37) 1 ∧ ArrR ρ' (z + 37) (addW r k f room h) := by
  obtain ⟨f0, hf0, h1, h2⟩ := H
  have M : ∀ ρ', Fr ρ ρ' (z + 37) 1 → gR ρ' 3 (z + 36) 0 = some (z + 37) := fun ρ' e => gR_at ((e (z + 36) (by omega)).trans O) rfl
  have hn : f0 0 = nI (r 0) := h1 0 (by omega)
  unfold fX10_adds
  have st : ∀ (σ : Rho) (g : Nat → Int32) (j : Nat) (v : Int32), j < 49 → Fr ρ σ (z + 37) 1 → σ (z + 37) = some (iC 49 g) → ∃ σ', stI σ (z + 37) (nI j) v = some σ' ∧ Fr ρ σ' (z + 37) 1 ∧ σ' (z + 37) = some (iC 49 (upd g j v)) := fun σ g j v hj e hg => ⟨_, stI_at hg hj (by omega), e.tr (Fr.set (by omega) (by omega)), rset_s⟩
  rw [M ρ Fr.rf, Option.bind_some, show (0 : Int32) = nI 0 from rfl, show (1 : Int32) = nI 1 from rfl, show (2 : Int32) = nI 2 from rfl, show (3 : Int32) = nI 3 from rfl, show (4 : Int32) = nI 4 from rfl, ldI_at hf0 (by omega) (by omega), hn, Option.bind_some, Option.bind_some, m_of, Option.bind_some]
  obtain ⟨σ1, c1, e1, t1⟩ := st ρ f0 (9 + 5 * r 0 + 0) (nI k) (by omega) Fr.rf hf0
  rw [c1, Option.bind_some, M σ1 e1, Option.bind_some, m_of, Option.bind_some]
  obtain ⟨σ2, c2, e2, t2⟩ := st σ1 _ (9 + 5 * r 0 + 1) (nI f) (by omega) e1 t1
  rw [c2, Option.bind_some, M σ2 e2, Option.bind_some, m_of, Option.bind_some]
  obtain ⟨σ3, c3, e3, t3⟩ := st σ2 _ (9 + 5 * r 0 + 2) (nI room) (by omega) e2 t2
  rw [c3, Option.bind_some, M σ3 e3, Option.bind_some, m_of, Option.bind_some]
  obtain ⟨σ4, c4, e4, t4⟩ := st σ3 _ (9 + 5 * r 0 + 3) (nI h) (by omega) e3 t3
  rw [c4, Option.bind_some, M σ4 e4, Option.bind_some, m_of, Option.bind_some]
  obtain ⟨σ5, c5, e5, t5⟩ := st σ4 _ (9 + 5 * r 0 + 4) (nI 0) (by omega) e4 t4
  rw [c5, Option.bind_some, M σ5 e5, Option.bind_some]
  obtain ⟨σ6, c6, e6, t6⟩ := st σ5 _ 0 (nI (r 0) + nI 1) (by omega) e5 t5
  rw [ldI_at t5 (by omega) (by omega), Option.bind_some, pk_un (by omega), pk_un (by omega), pk_un (by omega), pk_un (by omega), pk_un (by omega), hn, c6, Option.bind_some]
  refine ⟨σ6, rfl, e6, _, t6, fun j hj => ?_, fun w hw i hi => ?_⟩
  · unfold addW
    by_cases c0 : j = 0
    · rw [c0, pk_us, if_pos rfl, nI_add]
    · rw [pk_un c0, pk_un (by omega), pk_un (by omega), pk_un (by omega), pk_un (by omega), pk_un (by omega), if_neg c0, if_neg (by omega), if_neg (by omega), if_neg (by omega), if_neg (by omega), if_neg (by omega)]
      exact h1 j hj
  · rw [show addW r k f room h 0 = r 0 + 1 from rfl] at hw
    unfold addW
    simp only [upd_if]
    by_cases c : w = r 0
    · rw [c, if_neg (by omega), if_neg (show ¬ 9 + 5 * r 0 + i = 0 by omega)]
      rcases (show i = 0 ∨ i = 1 ∨ i = 2 ∨ i = 3 ∨ i = 4 by omega) with rfl | rfl | rfl | rfl | rfl
      · rw [if_neg (by omega), if_neg (by omega), if_neg (by omega), if_neg (by omega), if_pos rfl, if_pos (show 9 + 5 * r 0 + 0 = 9 + 5 * r 0 from rfl)]
      · rw [if_neg (by omega), if_neg (by omega), if_neg (by omega), if_pos rfl, if_neg (by omega), if_pos rfl]
      · rw [if_neg (by omega), if_neg (by omega), if_pos rfl, if_neg (by omega), if_neg (by omega), if_pos rfl]
      · rw [if_neg (by omega), if_pos rfl, if_neg (by omega), if_neg (by omega), if_neg (by omega), if_pos rfl]
      · rw [if_pos rfl, if_neg (by omega), if_neg (by omega), if_neg (by omega), if_neg (by omega), if_pos rfl]
    · rw [if_neg (by omega), if_neg (by omega), if_neg (by omega), if_neg (by omega), if_neg (by omega), if_neg (by omega), if_neg (by omega), if_neg (by omega), if_neg (by omega), if_neg (by omega), if_neg (by omega), if_neg (by omega)]
      exact h2 w (by omega) i hi
/-- what is owed after so many years -/
def oY (r : Nat → Nat) (k : Nat) : Nat := match k with
  | 0 => r 3
  | k + 1 => yrO r (oY r k) (r 1)
theorem oY_le {r : Nat → Nat} (ok : OKr r) (k : Nat) : oY r k ≤ 99999 := by
  cases k with
  | zero => exact ok.1.2.2.2.1
  | succ k => exact yrO_le _ _
theorem x_years {ρ : Rho} {a B N : Nat} {r : Nat → Nat} (H : HouseR ρ a r B) (bt : BitsR r B) (ok : OKr r) (h1 : 1 ≤ N) (hN : N ≤ 99) (hy : r 2 + N ≤ 999) : ∃ ρ', fX0_passYears ρ a (nI N) = some (nI (oY r N), ρ') ∧ Fr ρ ρ' a 6 ∧ HouseR ρ' a (setE (setE r 3 (oY r N)) 2 (r 2 + N)) B := by
  have key : ∀ k n i σ, i + k = N → k < n → Fr ρ σ a 6 → HouseR σ a (setE r 3 (oY r i)) B → ∃ ρ', fX0_passYears_29 n σ a (nI N) (nI i) = some (nI (oY r N), ρ') ∧ Fr ρ ρ' a 6 ∧ HouseR ρ' a (setE (setE r 3 (oY r N)) 2 (r 2 + N)) B := by
    intro k
    induction k with
    | zero =>
      intro n i σ hi hn e h
      obtain ⟨n, rfl⟩ : ∃ p0, n = p0 + 1 := ⟨n - 1, by omega⟩
      have hi : i = N := by omega
      subst hi
      have F := h.f (by rw [setE_n (by omega)]; exact ok.1.1)
      obtain ⟨ρ', c1, c2, c3⟩ := h.pt (j := 2) (by omega) (r 2 + i)
      have F2 := c3.f (by rw [setE_n (by omega), setE_n (by omega)]; exact ok.1.1)
      rw [fX0_passYears_29, if_pos (nI_le (Nat.le_refl _) (by omega)), F.2.1.2.2.2.1, Option.bind_some, setE_n (by omega), nI_add, c1, Option.bind_some, F2.2.1.2.2.2.2.1, Option.bind_some, setE_n (by omega), setE_s]
      exact ⟨ρ', rfl, e.tr c2, c3⟩
    | succ k ih =>
      intro n i σ hi hn e h
      obtain ⟨n, rfl⟩ : ∃ p0, n = p0 + 1 := ⟨n - 1, by omega⟩
      have hlt : i < N := by omega
      have ag : Agr r (setE r 3 (oY r i)) := Agr.rf.set (Or.inr rfl)
      have hh := ok.1.2.1
      have ok2 : OKr (setE r 3 (oY r i)) := ag.ok ok (by rw [setE_n (by omega)]; exact hh) (by rw [setE_s]; exact oY_le ok i)
      have bt2 := ag.bits bt
      have F := h.f ok2.1.1
      obtain ⟨ρ', c1, c2, c3⟩ := h.pt (j := 3) (by omega) (oY r (i + 1))
      rw [fX0_passYears_29, if_neg (nI_ge hlt (by omega)), F.2.1.2.2.2.2.1, Option.bind_some, F.2.1.2.2.1, Option.bind_some, F.1.1, Option.bind_some, setE_s, setE_n (by omega), x_owedBehindYear F bt2 ok2 (oY_le ok i) hh, Option.bind_some, ag.yr, show yrO r (oY r i) (r 1) = oY r (i + 1) from rfl, c1, Option.bind_some, nI_1]
      refine ih n (i + 1) ρ' (by omega) (by omega) (e.tr c2) ?_
      have e3 : setE (setE r 3 (oY r i)) 3 (oY r (i + 1)) = setE r 3 (oY r (i + 1)) := by
        funext j
        unfold setE
        split <;> rfl
      rw [← e3]
      exact c3
  unfold fX0_passYears
  have F := H.f ok.1.1
  have e0 : setE r 3 (oY r 0) = r := by
    funext j
    unfold setE oY
    split
    · rename_i h; rw [h]
    · rfl
  simp only [Option.bind_some, n10, if_false, show fX0_isWithin ρ (nI N) 1 99 = some (nI 1) from x_within_in ρ (lo := 1) (hi := 99) h1 hN (by omega), F.2.1.2.2.2.1]
  rw [nI_add, if_pos (show nI _ ≤ (999 : Int32) from nI_le (b := 999) hy (by omega))]
  exact key N FU 0 ρ (by omega) (FU_gt (by omega)) Fr.rf (by rw [e0]; exact H)
theorem x_years_no {ρ : Rho} {a B N : Nat} {r : Nat → Nat} (H : HouseR ρ a r B) (ok : OKr r) (h1 : 1 ≤ N) (hN : N ≤ 99) (hy : 999 < r 2 + N) : fX0_passYears ρ a (nI N) = some (-3, ρ) := by
  unfold fX0_passYears
  have F := H.f ok.1.1
  have h2 := ok.1.2.2.1
  simp only [Option.bind_some, n10, if_false, show fX0_isWithin ρ (nI N) 1 99 = some (nI 1) from x_within_in ρ (lo := 1) (hi := 99) h1 hN (by omega), F.2.1.2.2.2.1]
  rw [nI_add, if_neg (show ¬ nI _ ≤ (999 : Int32) from nI_ge (a := 999) hy (by omega))]
theorem m_yearsOn {ρ : Rho} {z N : Nat} {r : Nat → Nat} {mo : Nat → Int32} (H : ArrR ρ (z + 37) r) (O : MO ρ z mo) (ok : OKr r) (hN : N ≤ 99) : ∃ ρ', fX10_yearsOn ρ (z + 36) (nI N) = some ρ' ∧ Fr ρ ρ' (z + 37) 1 ∧ ArrR ρ' (z + 37) (setE (setE r 3 (oY r N)) 2 (r 2 + N)) := by
  have M : ∀ ρ', Fr ρ ρ' (z + 37) 1 → gR ρ' 3 (z + 36) 0 = some (z + 37) := fun ρ' e => gR_at ((e (z + 36) (by omega)).trans O) rfl
  have key : ∀ k n i σ, i + k = N → k < n → Fr ρ σ (z + 37) 1 → ArrR σ (z + 37) (setE r 3 (oY r i)) → ∃ ρ', fX10_yearsOn_2 n σ (z + 36) (nI N) (nI i) = some ρ' ∧ Fr ρ ρ' (z + 37) 1 ∧ ArrR ρ' (z + 37) (setE (setE r 3 (oY r N)) 2 (r 2 + N)) := by
    intro k
    induction k with
    | zero =>
      intro n i σ hi hn e h
      obtain ⟨n, rfl⟩ : ∃ p0, n = p0 + 1 := ⟨n - 1, by omega⟩
      have hi : i = N := by omega
      subst hi
      have F := h.f (by rw [setE_n (by omega)]; exact ok.1.1)
      obtain ⟨ρ', c1, c2, c3⟩ := h.set (j := 2) (by omega) (by omega) (r 2 + i)
      rw [fX10_yearsOn_2, if_pos (nI_le (Nat.le_refl _) (by omega)), M σ e, Option.bind_some, show (2 : Int32) = nI 2 from rfl, F.1 2 (by omega), Option.bind_some, setE_n (by omega), nI_add, c1, Option.bind_some]
      exact ⟨ρ', rfl, e.tr c2, c3⟩
    | succ k ih =>
      intro n i σ hi hn e h
      obtain ⟨n, rfl⟩ : ∃ p0, n = p0 + 1 := ⟨n - 1, by omega⟩
      have hlt : i < N := by omega
      have ag : Agr r (setE r 3 (oY r i)) := Agr.rf.set (Or.inr rfl)
      have hh := ok.1.2.1
      have ok2 : OKr (setE r 3 (oY r i)) := ag.ok ok (by rw [setE_n (by omega)]; exact hh) (by rw [setE_s]; exact oY_le ok i)
      obtain ⟨ρ', c1, c2, c3⟩ := m_year h ok2
      rw [fX10_yearsOn_2, if_neg (nI_ge hlt (by omega)), M σ e, Option.bind_some, c1, Option.bind_some, nI_1]
      refine ih n (i + 1) ρ' (by omega) (by omega) (e.tr c2) ?_
      rw [setE_s, setE_n (by omega), ag.yr] at c3
      have e3 : setE (setE r 3 (oY r i)) 3 (yrO r (oY r i) (r 1)) = setE r 3 (oY r (i + 1)) := by
        funext j
        unfold setE
        split <;> rfl
      rw [← e3]
      exact c3
  have e0 : setE r 3 (oY r 0) = r := by
    funext j
    unfold setE oY
    split
    · rename_i h; rw [h]
    · rfl
  exact key N FU 0 ρ (by omega) (FU_gt (by omega)) Fr.rf (by rw [e0]; exact H)
