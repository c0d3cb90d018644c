/-! PURE: loophole. -/
def kiR (r : Nat → Nat) (w k : Nat) : Nat → Nat := setE r (9 + 5 * w) k
theorem OKr.ki {r : Nat → Nat} (ok : OKr r) {w k : Nat} (hk : k < 8) : OKr (kiR r w k) := by
  unfold kiR
  obtain ⟨o1, o2, o3⟩ := ok
  refine ⟨?_, fun i hi => ?_, fun v hv => ?_⟩
  · rw [setE_n (by omega), setE_n (by omega), setE_n (by omega), setE_n (by omega), setE_n (by omega)]
    exact o1
  · rw [setE_n (by omega)]
    exact o2 i hi
  · rw [setE_n (by omega)] at hv
    obtain ⟨q1, q2, q3, q4, q5⟩ := o3 v hv
    rw [setE_n (show 9 + 5 * v + 1 ≠ 9 + 5 * w by omega), setE_n (show 9 + 5 * v + 2 ≠ 9 + 5 * w by omega), setE_n (show 9 + 5 * v + 3 ≠ 9 + 5 * w by omega), setE_n (show 9 + 5 * v + 4 ≠ 9 + 5 * w by omega)]
    refine ⟨?_, q2, q3, q4, q5⟩
    by_cases c : v = w
    · rw [c, setE_s]; exact hk
    · rw [setE_n (by omega)]; exact q1
theorem BitsR.ki {r : Nat → Nat} {B w k : Nat} (bt : BitsR r B) : BitsR (kiR r w k) B := by
  unfold kiR
  refine ⟨by rw [setE_n (by omega)]; exact bt.1, fun v hv => ?_⟩
  rw [setE_n (by omega)] at hv
  rw [setE_n (by omega)]
  exact bt.2 v hv
theorem HouseR.ki {ρ : Rho} {a B w : Nat} {r : Nat → Nat} (H : HouseR ρ a r B) (h8 : r 0 ≤ 8) (hw : w < r 0) (k : Nat) : ∃ ρ', stI ρ (a + 1) (nI w) (nI k) = some ρ' ∧ Fr ρ ρ' a 6 ∧ HouseR ρ' a (kiR r w k) B := by
  obtain ⟨f1, f2, f3, f4, f5, h0, ⟨h1, h2, h3, h4, h5⟩, hw1, hi⟩ := H
  refine ⟨_, stI_at h1 (by omega) (by omega), Fr.set (by omega) (by omega), upd f1 w (nI k), f2, f3, f4, f5, ?_, ⟨?_, ?_, ?_, ?_, ?_⟩, fun v hv => ?_, fun i hi1 => ?_⟩
  · rw [rset_n (by omega)]
    unfold kiR
    rw [setE_n (by omega), setE_n (by omega), setE_n (by omega), setE_n (by omega), setE_n (by omega)]; exact h0
  · rw [rset_s]
  · rw [rset_n (by omega)]; exact h2
  · rw [rset_n (by omega)]; exact h3
  · rw [rset_n (by omega)]; exact h4
  · rw [rset_n (by omega)]; exact h5
  · unfold kiR at hv ⊢
    rw [setE_n (by omega)] at hv
    obtain ⟨q1, q2, q3, q4⟩ := hw1 v hv
    rw [setE_n (show 9 + 5 * v + 1 ≠ 9 + 5 * w by omega), setE_n (show 9 + 5 * v + 2 ≠ 9 + 5 * w by omega), setE_n (show 9 + 5 * v + 3 ≠ 9 + 5 * w by omega)]
    refine ⟨?_, q2, q3, q4⟩
    by_cases c : v = w
    · rw [c, pk_us, setE_s]
    · rw [pk_un c, setE_n (by omega)]; exact q1
  · unfold kiR
    rw [setE_n (by omega)]
    exact hi i hi1
theorem kiR_kiR (r : Nat → Nat) (w k k' : Nat) : kiR (kiR r w k) w k' = kiR r w k' := by
  funext j
  unfold kiR setE
  split <;> rfl
theorem kiR_back (r : Nat → Nat) (w k : Nat) : kiR (kiR r w k) w (r (9 + 5 * w)) = r := by
  funext j
  unfold kiR setE
  split
  · rename_i e; rw [e]
  · rfl
def lmB (r : Nat → Nat) (w i room : Nat) : Bool := decide (lck (kiR r w i) room (r 1) ≤ lck r room (r 1))
def lpI (r : Nat → Nat) (w k i : Nat) (f : Int32) (L : Nat) : Int32 × Nat := match k with
  | 0 => (f, L)
  | k + 1 => if dus (kiR r w i) < L ∧ allT (lmB r w i) 4 0 = true then lpI r w k (i + 1) (nI (10 * w + i)) (dus (kiR r w i)) else lpI r w k (i + 1) f L
def lpO (r : Nat → Nat) (k w : Nat) (f : Int32) (L : Nat) : Int32 := match k with
  | 0 => f
  | k + 1 => lpO r k (w + 1) (lpI r w 8 0 f L).1 (lpI r w 8 0 f L).2
theorem lpI_le {r : Nat → Nat} {w : Nat} : ∀ k i f L, L ≤ 1440 → (lpI r w k i f L).2 ≤ 1440 := by
  intro k
  induction k with
  | zero => exact fun _ _ _ h => h
  | succ k ih =>
    intro i f L h
    rw [lpI]
    split
    · exact ih _ _ _ (by omega)
    · exact ih _ _ _ h
section LP
variable {ρ : Rho} {x B w i : Nat} {r : Nat → Nat}
theorem x_lacksMore {σ : Rho} {B' : Nat} (F : HouseF σ (x + 1) r B) (bt : BitsR r B) (ok : OKr r) (F' : HouseF σ (x + 13) (kiR r w i) B') (bt' : BitsR (kiR r w i) B') (ok' : OKr (kiR r w i)) : fX3_lacksMore σ (x + 1) (x + 13) = some (if allT (lmB r w i) 4 0 = true then nI 0 else nI 1) := by
  have hh := ok.1.2.1
  have key : ∀ k n room, room + k = 4 → k < n → fX3_lacksMore_2 σ n (x + 1) (x + 13) (nI room) = some (if allT (lmB r w i) k room = true then nI 0 else nI 1) := by
    intro k
    induction k with
    | zero =>
      intro n room hi hn
      obtain ⟨n, rfl⟩ : ∃ p0, n = p0 + 1 := ⟨n - 1, by omega⟩
      obtain rfl : room = 4 := by omega
      rfl
    | succ k ih =>
      intro n room hi hn
      obtain ⟨n, rfl⟩ : ∃ p0, n = p0 + 1 := ⟨n - 1, by omega⟩
      have hlt : room < 4 := by omega
      have l1 := lck_le ok hlt (r 1)
      have l2 := lck_le ok' hlt (r 1)
      rw [fX3_lacksMore_2, allT]
      simp (disch := omega) only [Option.bind_some, fa_lit, nI_add, pk_mul, nI_leI, nI_ltI, nI_eq, nb_0, nb_1, if_true, if_false, cnle hlt, F.2.1.2.2.1, F.1.1, F'.1.1, x_lackOf F bt ok hlt hh, x_lackOf F' bt' ok' hlt hh]
      by_cases c : lck (kiR r w i) room (r 1) ≤ lck r room (r 1)
      · rw [if_pos c, ih n (room + 1) (by omega) (by omega), show lmB r w i room = true from decide_eq_true c, Bool.true_and]
      · rw [if_neg c, show lmB r w i room = false from decide_eq_false c, Bool.false_and]
        rfl
  exact key 4 FU 0 (by omega) (FU_gt (by omega))
theorem x_lpI (H : HouseR ρ (x + 1) r B) (bt : BitsR r B) (ok : OKr r) (hw : w < r 0) (k11 : Rho → Nat → Nat → Int32 → Int32 → Int32 → Option (Int32 × Rho)) : ∀ k n i f L σ y, i + k = 8 → k < n → L ≤ 1440 → Fr ρ σ (x + 13) 6 → HouseR σ (x + 13) (kiR r w y) B → ∃ σ', Fr ρ σ' (x + 13) 6 ∧ HouseR σ' (x + 13) r B ∧ fX3_cheapestChange_23 k11 n σ (x + 1) (x + 13) f (nI L) (nI w) (nI i) = k11 σ' (x + 1) (x + 13) (lpI r w k i f L).1 (nI (lpI r w k i f L).2) (nI (w + 1)) := by
  have h8 := ok.1.1
  intro k
  induction k with
  | zero =>
    intro n i f L σ y hi hn hL fr hd
    obtain ⟨n, rfl⟩ : ∃ p0, n = p0 + 1 := ⟨n - 1, by omega⟩
    obtain rfl : i = 8 := by omega
    have F := (H.fr (fun j hj => fr (x + 1 + j) (by omega))).f h8
    have k0 : kiR r w y 0 = r 0 := setE_n (by omega)
    have F' := hd.f (by rw [k0]; exact h8)
    obtain ⟨σ', e1, e2, e3⟩ := hd.ki (w := w) (by rw [k0]; exact h8) (by rw [k0]; exact hw) (r (9 + 5 * w))
    rw [kiR_back] at e3
    refine ⟨σ', fr.tr e2, e3, ?_⟩
    rw [fX3_cheapestChange_23, if_pos (show (8 : Int32) ≤ nI 8 by decide), F'.1.2.1, Option.bind_some, F.1.2.1, Option.bind_some, (F.2.2.1 w hw).1, Option.bind_some, e1, Option.bind_some, nI_1]
    rfl
  | succ k ih =>
    intro n i f L σ y hi hn hL fr hd
    obtain ⟨n, rfl⟩ : ∃ p0, n = p0 + 1 := ⟨n - 1, by omega⟩
    have hlt : i < 8 := by omega
    have k0 : kiR r w y 0 = r 0 := setE_n (by omega)
    have F' := hd.f (by rw [k0]; exact h8)
    obtain ⟨σ1, e1, e2, e3⟩ := hd.ki (w := w) (by rw [k0]; exact h8) (by rw [k0]; exact hw) i
    rw [kiR_kiR] at e3
    have fr1 := fr.tr e2
    have F1 := (H.fr (fun j hj => fr1 (x + 1 + j) (by omega))).f h8
    have ok2 := ok.ki (w := w) hlt
    have bt2 := bt.ki (w := w) (k := i)
    have F2 := e3.f ok2.1.1
    have hd2 := dus_le ok2
    have go := fun f' L' (hL' : L' ≤ 1440) => ih n (i + 1) f' L' σ1 i (by omega) (by omega) hL' fr1 e3
    have st : fX3_cheapestChange_23 k11 (n + 1) σ (x + 1) (x + 13) f (nI L) (nI w) (nI i) = if L ≤ dus (kiR r w i) then fX3_cheapestChange_23 k11 n σ1 (x + 1) (x + 13) f (nI L) (nI w) (nI (i + 1)) else (fX3_lacksMore σ1 (x + 1) (x + 13)).bind fun x11 => if x11 = nI 0 then fX3_cheapestChange_23 k11 n σ1 (x + 1) (x + 13) (nI (10 * w + i)) (nI (dus (kiR r w i))) (nI w) (nI (i + 1)) else fX3_cheapestChange_23 k11 n σ1 (x + 1) (x + 13) f (nI L) (nI w) (nI (i + 1)) := by
      rw [fX3_cheapestChange_23, if_neg (show ¬ (8 : Int32) ≤ nI i from nI_ge (b := 8) hlt (by omega)), F'.1.2.1, Option.bind_some, e1, Option.bind_some, F2.1.1, Option.bind_some, x_openDues F2 bt2 ok2, Option.bind_some]
      simp (disch := omega) only [Option.bind_some, fa_lit, nI_add, pk_mul, nI_leI, nI_ltI, nI_eq, nb_0, nb_1, if_true, if_false, fX3_cheapestChange_71]
    rw [st, lpI]
    by_cases c1 : dus (kiR r w i) < L
    · rw [if_neg (show ¬ L ≤ dus (kiR r w i) by omega), x_lacksMore F1 bt ok F2 bt2 ok2, Option.bind_some]
      by_cases c2 : allT (lmB r w i) 4 0 = true
      · rw [if_pos c2, if_pos rfl, if_pos ⟨c1, c2⟩]
        exact go _ _ hd2
      · rw [if_neg c2, if_neg n10b, if_neg (fun q => c2 q.2)]
        exact go _ _ hL
    · rw [if_pos (show L ≤ dus (kiR r w i) by omega), if_neg (fun q => c1 q.1)]
      exact go _ _ hL
theorem x_lpO (H : HouseR ρ (x + 1) r B) (bt : BitsR r B) (ok : OKr r) : ∀ k n w f L σ, w + k = r 0 → k < n → L ≤ 1440 → Fr ρ σ (x + 13) 6 → HouseR σ (x + 13) r B → ∃ σ', Fr ρ σ' (x + 13) 6 ∧ HouseR σ' (x + 13) r B ∧ fX3_cheapestChange_11 n σ (x + 1) (x + 13) f (nI L) (nI w) = some (lpO r k w f L, σ') := by
  have h8 := ok.1.1
  intro k
  induction k with
  | zero =>
    intro n w f L σ hi hn hL fr hd
    obtain ⟨n, rfl⟩ : ∃ p0, n = p0 + 1 := ⟨n - 1, by omega⟩
    have F := (H.fr (fun j hj => fr (x + 1 + j) (by omega))).f h8
    refine ⟨σ, fr, hd, ?_⟩
    rw [fX3_cheapestChange_11, F.2.1.1, Option.bind_some, if_pos (nI_le (by omega) (by omega))]
    rfl
  | succ k ih =>
    intro n w f L σ hi hn hL fr hd
    obtain ⟨n, rfl⟩ : ∃ p0, n = p0 + 1 := ⟨n - 1, by omega⟩
    have hlt : w < r 0 := by omega
    have F := (H.fr (fun j hj => fr (x + 1 + j) (by omega))).f h8
    have hb : kiR r w (r (9 + 5 * w)) = r := by
      have := kiR_back r w (r (9 + 5 * w))
      rwa [kiR_kiR] at this
    obtain ⟨σ1, e1, e2, e3⟩ := x_lpI H bt ok hlt (fX3_cheapestChange_11 n) 8 FU 0 f L σ (r (9 + 5 * w)) (by omega) (FU_gt (by omega)) hL fr (by rw [hb]; exact hd)
    obtain ⟨σ', s1, s2, s3⟩ := ih n (w + 1) (lpI r w 8 0 f L).1 (lpI r w 8 0 f L).2 σ1 (by omega) (by omega) (lpI_le _ _ _ _ hL) e1 e2
    refine ⟨σ', s1, s2, ?_⟩
    rw [fX3_cheapestChange_11, F.2.1.1, Option.bind_some, if_neg (nI_ge hlt (by omega)), fa_lit 0, e3, s3]
    rfl
theorem m_rooms {τ : Rho} {mo : Nat → Int32} (A : ArrR τ (x + 37) r) (Bb : ArrR τ (x + 38) (kiR r w i)) (O : MO τ x mo) (ok : OKr r) (ok' : OKr (kiR r w i)) (k13 : Rho → Nat → Int32 → Int32 → Int32 → Option (Int32 × Rho)) (k26 : Rho → Nat → Int32 → Int32 → Int32 → Int32 → Option (Int32 × Rho)) (f : Int32) (L : Int32) : ∀ k n room bb, room + k = 4 → k < n → bb ≤ 1 → fX10_loophole_77 k13 k26 n τ (x + 36) f L (nI w) (nI i) (nI bb) (nI room) = if bb = 1 ∧ allT (lmB r w i) k room = true then k26 τ (x + 36) (nI (10 * w + i)) (nI (dus (kiR r w i))) (nI w) (nI (i + 1)) else k26 τ (x + 36) f L (nI w) (nI (i + 1)) := by
  have hh := ok.1.2.1
  have G := A.f ok.1.1
  have G' := Bb.f ok'.1.1
  intro k
  induction k with
  | zero =>
    intro n room bb hi hn hb
    obtain ⟨n, rfl⟩ : ∃ p0, n = p0 + 1 := ⟨n - 1, by omega⟩
    obtain rfl : room = 4 := by omega
    rw [fX10_loophole_77, if_pos (show (4 : Int32) ≤ nI 4 by decide), O.m, Option.bind_some, m_duesOf G' ok', Option.bind_some, fX10_loophole_156, fX10_loophole_156, fa_lit 10, pk_mul, nI_add, nI_1, fa_lit 0]
    rcases (show bb = 0 ∨ bb = 1 by omega) with rfl | rfl
    · rw [if_pos rfl, if_neg (fun q => absurd q.1 (by decide))]
    · rw [if_neg n10b, if_pos ⟨rfl, rfl⟩]
  | succ k ih =>
    intro n room bb hi hn hb
    obtain ⟨n, rfl⟩ : ∃ p0, n = p0 + 1 := ⟨n - 1, by omega⟩
    have hlt : room < 4 := by omega
    have l1 := lck_le ok hlt (r 1)
    have l2 := lck_le ok' hlt (r 1)
    have hand : ∀ y, y ≤ 1 → nI bb &&& nI y = nI (bb * y) := fun y hy => by
      rcases (show bb = 0 ∨ bb = 1 by omega) with rfl | rfl <;> rcases (show y = 0 ∨ y = 1 by omega) with rfl | rfl <;> rfl
    have g1 : ldI τ (x + 37) (nI 1) = some (nI (r 1)) := G.1 1 (by omega)
    rw [fX10_loophole_77, allT, if_neg (show ¬ (4 : Int32) ≤ nI room from nI_ge (b := 4) hlt (by omega))]
    simp (disch := omega) only [Option.bind_some, fa_lit, nI_add, pk_mul, nI_leI, nI_ltI, nI_eq, nb_0, nb_1, if_true, if_false, O.m, O.s, g1, m_lacks G ok hlt hh, m_lacks G' ok' hlt hh, fX10_loophole_123, hand 0 (by omega), hand 1 (by omega), Nat.mul_one]
    by_cases c : lck (kiR r w i) room (r 1) ≤ lck r room (r 1)
    · rw [if_neg (show ¬ lck r room (r 1) < lck (kiR r w i) room (r 1) by omega), ih n (room + 1) bb (by omega) (by omega) hb, show lmB r w i room = true from decide_eq_true c, Bool.true_and]
    · rw [if_pos (show lck r room (r 1) < lck (kiR r w i) room (r 1) by omega), ih n (room + 1) (bb * 0) (by omega) (by omega) (by omega), show lmB r w i room = false from decide_eq_false c, Bool.false_and, if_neg (fun q => absurd q.1 (by omega)), if_neg (fun q => absurd q.2 (by decide))]
theorem m_lpI {mo : Nat → Int32} (ok : OKr r) (hw : w < r 0) (k13 : Rho → Nat → Int32 → Int32 → Int32 → Option (Int32 × Rho)) : ∀ k n i f L τ b, i + k = 8 → k < n → L ≤ 1440 → ArrR τ (x + 37) r → ArrR τ (x + 38) b → MO τ x mo → ∃ τ' b', Fr τ τ' (x + 38) 1 ∧ ArrR τ' (x + 38) b' ∧ fX10_loophole_26 k13 n τ (x + 36) f (nI L) (nI w) (nI i) = k13 τ' (x + 36) (lpI r w k i f L).1 (nI (lpI r w k i f L).2) (nI (w + 1)) := by
  have h8 := ok.1.1
  intro k
  induction k with
  | zero =>
    intro n i f L τ b hi hn hL A Bb O
    obtain ⟨n, rfl⟩ : ∃ p0, n = p0 + 1 := ⟨n - 1, by omega⟩
    obtain rfl : i = 8 := by omega
    refine ⟨τ, b, Fr.rf, Bb, ?_⟩
    rw [fX10_loophole_26, if_pos (show (8 : Int32) ≤ nI 8 by decide), nI_1]
    rfl
  | succ k ih =>
    intro n i f L τ b hi hn hL A Bb O
    obtain ⟨n, rfl⟩ : ∃ p0, n = p0 + 1 := ⟨n - 1, by omega⟩
    have hlt : i < 8 := by omega
    obtain ⟨τ1, c1, c2, c3⟩ := m_copies A h8 Bb (by omega)
    obtain ⟨τ2, d1, d2, d3⟩ := c3.set (j := 9 + 5 * w) (by omega) (by omega) i
    have d4 : ArrR τ2 (x + 38) (kiR r w i) := d3
    have fr := c2.tr d2
    have O1 : MO τ1 x mo := (c2 (x + 36) (by omega)).trans O
    have O2 : MO τ2 x mo := (fr (x + 36) (by omega)).trans O
    have A2 : ArrR τ2 (x + 37) r := A.fr (fr (x + 37) (by omega))
    have ok2 := ok.ki (w := w) hlt
    have G2 := d4.f ok2.1.1
    have hd2 := dus_le ok2
    have go : ∀ f' L', L' ≤ 1440 → ∃ τ' b', Fr τ τ' (x + 38) 1 ∧ ArrR τ' (x + 38) b' ∧ fX10_loophole_26 k13 n τ2 (x + 36) f' (nI L') (nI w) (nI (i + 1)) = k13 τ' (x + 36) (lpI r w k (i + 1) f' L').1 (nI (lpI r w k (i + 1) f' L').2) (nI (w + 1)) := fun f' L' hL' => by
      obtain ⟨τ', b', p1, p2, p3⟩ := ih n (i + 1) f' L' τ2 _ (by omega) (by omega) hL' A2 d4 O2
      exact ⟨τ', b', fr.tr p1, p2, p3⟩
    rw [fX10_loophole_26, if_neg (show ¬ (8 : Int32) ≤ nI i from nI_ge (b := 8) hlt (by omega)), O.s, Option.bind_some, O.m, Option.bind_some, c1, Option.bind_some, O1.m, Option.bind_some, fa_lit 0, m_of0, Option.bind_some, d1, Option.bind_some, O2.m, Option.bind_some, m_duesOf G2 ok2, Option.bind_some, fX10_loophole_72, fX10_loophole_72, fa_lit 0, fa_lit 1, lpI, m_rooms A2 d4 O2 ok ok2 k13 _ f (nI L) 4 FU 0 0 (by omega) (FU_gt (by omega)) (by omega), m_rooms A2 d4 O2 ok ok2 k13 _ f (nI L) 4 FU 0 1 (by omega) (FU_gt (by omega)) (by omega), if_neg (show ¬ (0 = 1 ∧ allT (lmB r w i) 4 0 = true) from fun q => absurd q.1 (by decide))]
    by_cases c1 : dus (kiR r w i) < L
    · rw [if_neg (nI_ge c1 (by omega))]
      by_cases c2 : allT (lmB r w i) 4 0 = true
      · rw [if_pos ⟨rfl, c2⟩, if_pos ⟨c1, c2⟩]
        exact go _ _ hd2
      · rw [if_neg (fun q => c2 q.2), if_neg (fun q => c2 q.2)]
        exact go _ _ hL
    · rw [if_pos (nI_le (by omega) (by omega)), if_neg (fun q => c1 q.1)]
      exact go _ _ hL
theorem m_lpO {mo : Nat → Int32} (ok : OKr r) : ∀ k n w f L τ b, w + k = r 0 → k < n → L ≤ 1440 → ArrR τ (x + 37) r → ArrR τ (x + 38) b → MO τ x mo → ∃ τ' b', Fr τ τ' (x + 38) 1 ∧ ArrR τ' (x + 38) b' ∧ fX10_loophole_13 n τ (x + 36) f (nI L) (nI w) = some (lpO r k w f L, τ') := by
  have h8 := ok.1.1
  intro k
  induction k with
  | zero =>
    intro n w f L τ b hi hn hL A Bb O
    obtain ⟨n, rfl⟩ : ∃ p0, n = p0 + 1 := ⟨n - 1, by omega⟩
    have G := A.f h8
    refine ⟨τ, b, Fr.rf, Bb, ?_⟩
    rw [fX10_loophole_13, O.s, Option.bind_some, fa_lit 0, G.1 0 (by omega), Option.bind_some, if_pos (nI_le (by omega) (by omega))]
    rfl
  | succ k ih =>
    intro n w f L τ b hi hn hL A Bb O
    obtain ⟨n, rfl⟩ : ∃ p0, n = p0 + 1 := ⟨n - 1, by omega⟩
    have hlt : w < r 0 := by omega
    have G := A.f h8
    obtain ⟨τ1, b1, e1, e2, e3⟩ := m_lpI (mo := mo) ok hlt (fX10_loophole_13 n) 8 FU 0 f L τ b (by omega) (FU_gt (by omega)) hL A Bb O
    obtain ⟨τ', b', s1, s2, s3⟩ := ih n (w + 1) (lpI r w 8 0 f L).1 (lpI r w 8 0 f L).2 τ1 b1 (by omega) (by omega) (lpI_le _ _ _ _ hL) (A.fr (e1 (x + 37) (by omega))) e2 ((e1 (x + 36) (by omega)).trans O)
    refine ⟨τ', b', e1.tr s1, s2, ?_⟩
    rw [fX10_loophole_13, O.s, Option.bind_some, fa_lit 0, G.1 0 (by omega), Option.bind_some, if_neg (nI_ge hlt (by omega)), e3, s3]
    rfl
end LP
theorem sim_loophole : Sim_loophole Rel := by
  intro ρ z0 x q o  hR hf
  obtain ⟨z, h, n, i, d, sf, se, mo, a, b, g, w, u, t, sk, sm, ⟨hx, hq, ho⟩, I, gd, sh⟩ := id hR
  subst hq ho
  subst hx
  obtain ⟨⟨g1, g2⟩, ⟨ea, ok, bt⟩, gi⟩ := id gd
  have hA : ArrR ρ (x + 37) n.1 := ea ▸ I.A
  have F := I.N.f ok.1.1
  have G := hA.f ok.1.1
  have X1 : gR ρ 2 x 0 = some (x + 1) := gR_at I.X rfl
  have M0 : ckO ρ 3 (x + 36) = some () := ckO_at I.O
  have M1 : gR ρ 3 (x + 36) 0 = some (x + 37) := gR_at I.O rfl
  obtain ⟨ρ1, e1, e2, e3⟩ := x_become I.N I.D (by omega) ok.1.1
  have I1 := I.uD (d' := n) (fun j hj hc => e2 (x + j) (by omega)) e3
  have F1 := I1.N.f ok.1.1
  have hd := dus_le ok
  obtain ⟨ρ2, c1, c2, c3⟩ := x_lpO (ρ := ρ1) I1.N bt ok (n.1 0) FU 0 (-nI 4) (dus n.1) ρ1 (by omega) (FU_gt (by have := ok.1.1; omega)) hd Fr.rf I1.D
  have I2 := I1.uD (d' := n) (fun j hj hc => c1 (x + j) (by omega)) c2
  have A2 : ArrR ρ2 (x + 37) n.1 := ea ▸ I2.A
  obtain ⟨ρ3, b3, m1, m2, m3⟩ := m_lpO (mo := mo) ok (n.1 0) FU 0 (-nI 4) (dus n.1) ρ2 b (by omega) (FU_gt (by have := ok.1.1; omega)) hd A2 I2.B I2.O
  refine ⟨(), lpO n.1 (n.1 0) 0 (-nI 4) (dus n.1), ρ2, (), ρ3, ckO_at I.X, ?_, ckO_at I2.O, ?_, x, h, n, i, n, sf, se, mo, a, b3, g, w, u, t, sk, sm, ⟨rfl, rfl, rfl⟩, I2.uB (fun j hj hc => m1 (x + j) (by omega)) m2, gd, sh⟩
  · unfold fX9_loophole fX3_cheapestChange
    simp only [Option.bind_some, n10, if_false, I.X.n2, I.X.n0, (I.D.f0).1, e1, I1.X.n0, I1.X.n2, F1.1.1, x_openDues F1 bt ok]
    rw [fa_lit 0, fa_lit 4, c3, Option.bind_some]
  · unfold fX10_loophole
    simp only [Option.bind_some, n10, if_false, I2.O.s, m_duesOf (A2.f ok.1.1) ok]
    exact m3
