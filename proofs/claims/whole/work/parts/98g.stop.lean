/-! PURE: stop and hidden: a house with other windows stopped. -/
def sdR (r : Nat → Nat) (s : Nat) : Nat → Nat := fun j => if 9 ≤ j ∧ (j - 9) % 5 = 4 then s / 2 ^ ((j - 9) / 5) % 2 else r j
theorem sdR_4 (r : Nat → Nat) (s w : Nat) : sdR r s (9 + 5 * w + 4) = s / 2 ^ w % 2 := by
  unfold sdR
  rw [if_pos (by omega), show (9 + 5 * w + 4 - 9) / 5 = w by omega]
theorem sdR_n (r : Nat → Nat) (s : Nat) {j : Nat} (h : ¬ (9 ≤ j ∧ (j - 9) % 5 = 4)) : sdR r s j = r j := if_neg h
theorem OKr.st {r : Nat → Nat} (ok : OKr r) (s : Nat) : OKr (sdR r s) := by
  obtain ⟨o1, o2, o3⟩ := ok
  refine ⟨?_, fun i hi => ?_, fun v hv => ?_⟩
  · rw [sdR_n _ _ (by omega), sdR_n _ _ (by omega), sdR_n _ _ (by omega), sdR_n _ _ (by omega), sdR_n _ _ (by omega)]
    exact o1
  · rw [sdR_n _ _ (by omega)]
    exact o2 i hi
  · rw [sdR_n _ _ (by omega)] at hv
    obtain ⟨q1, q2, q3, q4, q5⟩ := o3 v hv
    rw [sdR_n _ _ (by omega), sdR_n _ _ (by omega), sdR_n _ _ (by omega), sdR_n _ _ (by omega), sdR_4]
    exact ⟨q1, q2, q3, q4, by omega⟩
theorem BitsR.st {r : Nat → Nat} {s : Nat} (hs : s < 2 ^ r 0) : BitsR (sdR r s) s := ⟨by rw [sdR_n _ _ (by omega)]; exact hs, fun w _ => sdR_4 r s w⟩
theorem HouseR.st {ρ : Rho} {a B : Nat} {r : Nat → Nat} (H : HouseR ρ a r B) (s : Nat) : HouseR ρ a (sdR r s) B := by
  obtain ⟨f1, f2, f3, f4, f5, h0, hh, hw, hi⟩ := H
  refine ⟨f1, f2, f3, f4, f5, ?_, hh, fun v hv => ?_, fun i hi1 => ?_⟩
  · rw [sdR_n _ _ (by omega), sdR_n _ _ (by omega), sdR_n _ _ (by omega), sdR_n _ _ (by omega), sdR_n _ _ (by omega)]
    exact h0
  · rw [sdR_n _ _ (by omega)] at hv
    rw [sdR_n _ _ (by omega), sdR_n _ _ (by omega), sdR_n _ _ (by omega), sdR_n _ _ (by omega)]
    exact hw v hv
  · rw [sdR_n _ _ (by omega)]
    exact hi i hi1
theorem ArrR.cg {ρ : Rho} {a : Nat} {r r' : Nat → Nat} (H : ArrR ρ a r) (h1 : ∀ j, j < 9 → r' j = r j) (h2 : ∀ w, w < r 0 → ∀ i, i < 5 → r' (9 + 5 * w + i) = r (9 + 5 * w + i)) : ArrR ρ a r' := by
  obtain ⟨f, e0, e1, e2⟩ := H
  refine ⟨f, e0, fun j hj => by rw [h1 j hj]; exact e1 j hj, fun w hw i hi => ?_⟩
  rw [h1 0 (by omega)] at hw
  rw [h2 w hw i hi]
  exact e2 w hw i hi
theorem m_stopsSet {ρ : Rho} {a s : Nat} {r : Nat → Nat} (H : ArrR ρ a r) (h8 : r 0 ≤ 8) (hs : s < 256) : ∃ ρ', fX10_stopsSet ρ a (nI s) = some ρ' ∧ Fr ρ ρ' a 1 ∧ ArrR ρ' a (sdR r s) := by
  have key : ∀ k n i σ r', i + k = r 0 → k < n → Fr ρ σ a 1 → ArrR σ a r' → (∀ j, j < 9 → r' j = r j) → (∀ w, w < r 0 → ∀ q, q < 5 → r' (9 + 5 * w + q) = if q = 4 ∧ w < i then s / 2 ^ w % 2 else r (9 + 5 * w + q)) → ∃ ρ', fX10_stopsSet_2 n σ a (nI s) (nI i) = some ρ' ∧ Fr ρ ρ' a 1 ∧ ArrR ρ' a (sdR r s) := by
    intro k
    induction k with
    | zero =>
      intro n i σ r' hi hn fr ha h1 h2
      obtain ⟨n, rfl⟩ : ∃ p0, n = p0 + 1 := ⟨n - 1, by omega⟩
      obtain rfl : i = r 0 := by omega
      have G := ha.f (by rw [h1 0 (by omega)]; exact h8)
      rw [fX10_stopsSet_2, show (0 : Int32) = nI 0 from rfl, G.1 0 (by omega), Option.bind_some, h1 0 (by omega), if_pos (nI_le (Nat.le_refl _) (by omega))]
      refine ⟨σ, rfl, fr, ha.cg (fun j hj => by rw [sdR_n _ _ (by omega), h1 j hj]) (fun w hw q hq => ?_)⟩
      rw [h1 0 (by omega)] at hw
      rw [h2 w hw q hq]
      by_cases c : q = 4
      · rw [c, sdR_4, if_pos ⟨rfl, hw⟩]
      · rw [sdR_n _ _ (by omega), if_neg (by omega)]
    | succ k ih =>
      intro n i σ r' hi hn fr ha h1 h2
      obtain ⟨n, rfl⟩ : ∃ p0, n = p0 + 1 := ⟨n - 1, by omega⟩
      have hlt : i < r 0 := by omega
      have G := ha.f (by rw [h1 0 (by omega)]; exact h8)
      obtain ⟨σ1, s1, s2, s3⟩ := ha.set (j := 9 + 5 * i + 4) (by omega) (by omega) (s / 2 ^ i % 2)
      rw [fX10_stopsSet_2, show (0 : Int32) = nI 0 from rfl, G.1 0 (by omega), Option.bind_some, h1 0 (by omega), if_neg (nI_ge hlt (by omega)), fa_lit 4, m_of, Option.bind_some, fa_lit 31, fa_lit 1, bit_has s hs i (by omega), s1, Option.bind_some, nI_add]
      refine ih n (i + 1) σ1 _ (by omega) (by omega) (fr.tr s2) s3 (fun j hj => by rw [setE_n (by omega), h1 j hj]) (fun w hw q hq => ?_)
      by_cases c : 9 + 5 * w + q = 9 + 5 * i + 4
      · obtain rfl : q = 4 := by omega
        obtain rfl : w = i := by omega
        rw [setE_s, if_pos (by omega)]
      · rw [setE_n c, h2 w hw q hq]
        by_cases c2 : q = 4 ∧ w < i
        · rw [if_pos c2, if_pos (by omega)]
        · rw [if_neg c2, if_neg (by omega)]
  exact key (r 0) FU 0 ρ r (by omega) (FU_gt (by omega)) Fr.rf H (fun _ _ => rfl) (fun w hw q hq => by rw [if_neg (by omega)])
/-- the copy with a set stopped -/
theorem m_mind {σ : Rho} {a b s : Nat} {r b' : Nat → Nat} (A : ArrR σ a r) (Bb : ArrR σ b b') (ne : a ≠ b) (h8 : r 0 ≤ 8) (hs : s < 256) : ∃ σ1 σ2, fX10_copies σ a b = some σ1 ∧ Fr σ σ1 b 1 ∧ fX10_stopsSet σ1 b (nI s) = some σ2 ∧ Fr σ σ2 b 1 ∧ ArrR σ2 b (sdR r s) := by
  obtain ⟨σ1, e1, e2, e3⟩ := m_copies A h8 Bb ne
  obtain ⟨σ2, f1, f2, f3⟩ := m_stopsSet e3 h8 hs
  exact ⟨σ1, σ2, e1, e2, f1, e2.tr f2, f3⟩
def stSt (r : Nat → Nat) (s : Nat) (f : Option Nat) : Option Nat := match f with
  | none => if drk (sdR r s) (r 1) = 0 then some s else none
  | some j => if drk (sdR r s) (r 1) = 0 ∧ dus (sdR r s) < dus (sdR r j) then some s else some j
def stFo (r : Nat → Nat) (k s : Nat) (f : Option Nat) : Option Nat := match k with
  | 0 => f
  | k + 1 => stFo r k (s + 1) (stSt r s f)
def stV (r : Nat → Nat) (a1 : Int32) (f : Option Nat) : Int32 := match f with
  | none => -nI 4
  | some j => if a1 = nI 0 then nI j else nI (dus (sdR r j))
def duF (r : Nat → Nat) (d : Nat) (f : Option Nat) : Nat := match f with
  | none => d
  | some j => dus (sdR r j)
theorem stSt_lt {r : Nat → Nat} {s : Nat} {f : Option Nat} {N : Nat} (hs : s < N) (hf : ∀ j, f = some j → j < N) : ∀ j, stSt r s f = some j → j < N := by
  intro j hj
  cases f with
  | none =>
    unfold stSt at hj
    dsimp only at hj
    by_cases c : drk (sdR r s) (r 1) = 0
    · rw [if_pos c] at hj
      cases hj; exact hs
    · rw [if_neg c] at hj
      cases hj
  | some j0 =>
    unfold stSt at hj
    dsimp only at hj
    by_cases c : drk (sdR r s) (r 1) = 0 ∧ dus (sdR r s) < dus (sdR r j0)
    · rw [if_pos c] at hj
      cases hj; exact hs
    · rw [if_neg c] at hj
      cases hj; exact hf _ rfl
theorem stFo_lt {r : Nat → Nat} {N : Nat} : ∀ k s f, s + k ≤ N → (∀ j, f = some j → j < N) → ∀ j, stFo r k s f = some j → j < N := by
  intro k
  induction k with
  | zero => exact fun s f _ hf => hf
  | succ k ih => exact fun s f hs hf => ih (s + 1) _ (by omega) (stSt_lt (by omega) hf)
theorem shl_1 : ∀ m, m ≤ 8 → (nI 1 <<< (nI m &&& nI 31)) = nI (2 ^ m) := by decide +kernel
theorem fv_lt {f : Option Nat} (hf : ∀ j, f = some j → j < 2 ^ 30) : (fv f < 0) = (f = none) := by
  cases f with
  | none => exact propext ⟨fun _ => rfl, fun _ => (by decide : -nI 4 < 0)⟩
  | some j => exact propext ⟨fun h => absurd h (nI_pos (by have := hf j rfl; omega)), fun h => by cases h⟩
theorem x_cheapest {ρ : Rho} {a B : Nat} {r : Nat → Nat} (H : HouseR ρ a r B) (ok : OKr r) : ∃ ρ' B', fX2_cheapestStops ρ a = some (fv (stFo r (2 ^ r 0) 0 none), ρ') ∧ Fr ρ ρ' a 6 ∧ HouseR ρ' a r B' := by
  have h8 := ok.1.1
  have hh := ok.1.2.1
  have hp : 2 ^ r 0 ≤ 256 := Nat.pow_le_pow_right (by omega) h8
  have key : ∀ k n s σ f B, s + k = 2 ^ r 0 → k < n → Fr ρ σ a 6 → HouseR σ a r B → (∀ j, f = some j → j < 2 ^ r 0) → ∃ ρ' B', fX2_cheapestStops_7 n σ a (fv f) (nI (duF r 0 f)) (nI s) = some (fv (stFo r k s f), ρ') ∧ Fr ρ ρ' a 6 ∧ HouseR ρ' a r B' := by
    intro k
    induction k with
    | zero =>
      intro n s σ f B hi hn fr hσ hf
      obtain ⟨n, rfl⟩ : ∃ p0, n = p0 + 1 := ⟨n - 1, by omega⟩
      have F := hσ.f h8
      rw [fX2_cheapestStops_7, F.2.1.1, Option.bind_some, fa_lit 1, fa_lit 31, shl_1 _ h8, if_pos (nI_le (by omega) (by omega))]
      exact ⟨σ, B, rfl, fr, hσ⟩
    | succ k ih =>
      intro n s σ f B hi hn fr hσ hf
      obtain ⟨n, rfl⟩ : ∃ p0, n = p0 + 1 := ⟨n - 1, by omega⟩
      have hs : s < 2 ^ r 0 := by omega
      have F := hσ.f h8
      obtain ⟨σ1, e1, e2, e3⟩ := hσ.ptB s
      have e4 := e3.st s
      have ok2 := ok.st s
      have bt2 : BitsR (sdR r s) s := BitsR.st hs
      have F2 := e4.f ok2.1.1
      have hd := dus_le ok2
      have r1 : sdR r s 1 = r 1 := sdR_n _ _ (by omega)
      rw [fX2_cheapestStops_7, F.2.1.1, Option.bind_some, fa_lit 1, fa_lit 31, shl_1 _ h8, if_neg (nI_ge hs (by omega)), e1, Option.bind_some, F2.1.1, Option.bind_some, x_openDues F2 bt2 ok2, Option.bind_some, fa_lit 0]
      have e38 : ∀ v1 v2, fX2_cheapestStops_38 (fX2_cheapestStops_7 n) σ1 a v1 v2 (nI s) (nI (dus (sdR r s))) = if drk (sdR r s) (r 1) = 0 then fX2_cheapestStops_7 n σ1 a (nI s) (nI (dus (sdR r s))) (nI (s + 1)) else fX2_cheapestStops_7 n σ1 a v1 v2 (nI (s + 1)) := fun v1 v2 => by
        rw [fX2_cheapestStops_38, F2.2.1.2.2.1, Option.bind_some, F2.1.1, Option.bind_some, x_isAnyLacking F2 bt2 ok2 (by rw [r1]; exact hh), Option.bind_some, r1, fX2_cheapestStops_54, fX2_cheapestStops_54, nI_1]
        rcases drk_01 (sdR r s) (r 1) with q | q <;> rw [q] <;> rfl
      have go : ∀ f', (∀ j, f' = some j → j < 2 ^ r 0) → ∃ ρ' B', fX2_cheapestStops_7 n σ1 a (fv f') (nI (duF r 0 f')) (nI (s + 1)) = some (fv (stFo r k (s + 1) f'), ρ') ∧ Fr ρ ρ' a 6 ∧ HouseR ρ' a r B' := fun f' hf' => ih n (s + 1) σ1 f' s (by omega) (by omega) (fr.tr e2) e3 hf'
      show ∃ ρ' B', _ = some (fv (stFo r k (s + 1) (stSt r s f)), ρ') ∧ _
      cases f with
      | none =>
        rw [if_pos (show fv none < nI 0 by decide), e38]
        unfold stSt
        dsimp only
        by_cases c : drk (sdR r s) (r 1) = 0
        · rw [if_pos c, if_pos c]
          exact go (some s) (fun j hj => by cases hj; exact hs)
        · rw [if_neg c, if_neg c]
          exact go none (fun j hj => by cases hj)
      | some j =>
        have hj := hf j rfl
        have hd2 := dus_le (ok.st j)
        rw [if_neg (show ¬ fv (some j) < nI 0 from nI_pos (by omega)), e38]
        unfold stSt
        dsimp only
        by_cases c2 : dus (sdR r s) < dus (sdR r j)
        · rw [if_neg (show ¬ nI (duF r 0 (some j)) ≤ nI (dus (sdR r s)) from nI_ge c2 (by show dus (sdR r j) < _; omega))]
          by_cases c : drk (sdR r s) (r 1) = 0
          · rw [if_pos c, if_pos ⟨c, c2⟩]
            exact go (some s) (fun j hj => by cases hj; exact hs)
          · rw [if_neg c, if_neg (fun q => c q.1)]
            exact go (some j) hf
        · rw [if_pos (show nI (duF r 0 (some j)) ≤ nI (dus (sdR r s)) from nI_le (by show dus (sdR r j) ≤ _; omega) (by omega)), fX2_cheapestStops_54, nI_1, if_neg (fun q => c2 q.2)]
          exact go (some j) hf
  exact key (2 ^ r 0) FU 0 ρ none B (by omega) (FU_gt (by omega)) Fr.rf H (fun j hj => by cases hj)
theorem m_stop20 {ρ : Rho} {x : Nat} {r b : Nat → Nat} {mo : Nat → Int32} (A : ArrR ρ (x + 37) r) (Bb : ArrR ρ (x + 38) b) (O : MO ρ x mo) (ok : OKr r) (a1 : Int32) : ∃ ρ' b', fX10_stop_20 FU ρ (x + 36) a1 (-nI 4) (nI 1000000000) (nI 0) = some (stV r a1 (stFo r (2 ^ r 0) 0 none), ρ') ∧ Fr ρ ρ' (x + 38) 1 ∧ ArrR ρ' (x + 38) b' := by
  have h8 := ok.1.1
  have hh := ok.1.2.1
  have hp : 2 ^ r 0 ≤ 256 := Nat.pow_le_pow_right (by omega) h8
  have key : ∀ k n s σ f b', s + k = 2 ^ r 0 → k < n → Fr ρ σ (x + 38) 1 → ArrR σ (x + 38) b' → (∀ j, f = some j → j < 2 ^ r 0) → ∃ ρ' b', fX10_stop_20 n σ (x + 36) a1 (fv f) (nI (duF r 1000000000 f)) (nI s) = some (stV r a1 (stFo r k s f), ρ') ∧ Fr ρ ρ' (x + 38) 1 ∧ ArrR ρ' (x + 38) b' := by
    intro k
    induction k with
    | zero =>
      intro n s σ f b' hi hn fr hb hf
      obtain ⟨n, rfl⟩ : ∃ p0, n = p0 + 1 := ⟨n - 1, by omega⟩
      have Aσ : ArrR σ (x + 37) r := A.fr (fr (x + 37) (by omega))
      have G := Aσ.f h8
      have O2 : MO σ x mo := (fr (x + 36) (by omega)).trans O
      rw [fX10_stop_20, O2.s, Option.bind_some, fa_lit 0, G.1 0 (by omega), Option.bind_some, fa_lit 1, fa_lit 31, shl_1 _ h8, if_pos (nI_le (by omega) (by omega))]
      refine ⟨σ, b', ?_, fr, hb⟩
      rw [stFo]
      cases f with
      | none => rw [if_pos (show fv none < nI 0 by decide)]; rfl
      | some j =>
        have hj := hf j rfl
        rw [if_neg (show ¬ fv (some j) < nI 0 from nI_pos (by omega)), stV]
        split <;> rfl
    | succ k ih =>
      intro n s σ f b' hi hn fr hb hf
      obtain ⟨n, rfl⟩ : ∃ p0, n = p0 + 1 := ⟨n - 1, by omega⟩
      have hs : s < 2 ^ r 0 := by omega
      have Aσ : ArrR σ (x + 37) r := A.fr (fr (x + 37) (by omega))
      have G := Aσ.f h8
      have O2 : MO σ x mo := (fr (x + 36) (by omega)).trans O
      obtain ⟨σ1, σ2, c1, c2, c3, c4, c5⟩ := m_mind Aσ hb (by omega) h8 (show s < 256 by omega)
      have O3 : MO σ1 x mo := (c2 (x + 36) (by omega)).trans O2
      have O4 : MO σ2 x mo := (c4 (x + 36) (by omega)).trans O2
      have ok2 := ok.st s
      have G2 := c5.f ok2.1.1
      have hd := dus_le ok2
      have g1 : ldI σ2 (x + 37) (nI 1) = some (nI (r 1)) := ((Aσ.fr (c4 (x + 37) (by omega))).f h8).1 1 (by omega)
      have go : ∀ f', (∀ j, f' = some j → j < 2 ^ r 0) → ∃ ρ' b', fX10_stop_20 n σ2 (x + 36) a1 (fv f') (nI (duF r 1000000000 f')) (nI (s + 1)) = some (stV r a1 (stFo r k (s + 1) f'), ρ') ∧ Fr ρ ρ' (x + 38) 1 ∧ ArrR ρ' (x + 38) b' := fun f' hf' => ih n (s + 1) σ2 f' _ (by omega) (by omega) (fr.tr c4) c5 hf'
      rw [fX10_stop_20, O2.s, Option.bind_some, fa_lit 0, G.1 0 (by omega), Option.bind_some, fa_lit 1, fa_lit 31, shl_1 _ h8, if_neg (nI_ge hs (by omega))]
      simp only [Option.bind_some, n10, if_false, O2.m, c1, O3.m, c3, O4.m, O4.s, g1, m_isDark G2 ok2 hh, m_duesOf G2 ok2, fX10_stop_94, nI_1]
      rw [stFo]
      cases f with
      | none =>
        unfold stSt
        dsimp only
        rcases drk_01 (sdR r s) (r 1) with q | q
        · rw [q, if_pos rfl, if_pos rfl, if_pos (show nI (dus (sdR r s)) < nI (duF r 1000000000 none) from nI_lt (by show _ < 1000000000; omega) (by show 1000000000 < _; omega))]
          exact go (some s) (fun j hj => by cases hj; exact hs)
        · rw [q, if_neg n10b, if_neg (show ¬ (1 = 0) by omega)]
          exact go none (fun j hj => by cases hj)
      | some j =>
        have hj := hf j rfl
        have hd2 := dus_le (ok.st j)
        unfold stSt
        dsimp only
        rcases drk_01 (sdR r s) (r 1) with q | q
        · rw [q, if_pos rfl]
          by_cases c2 : dus (sdR r s) < dus (sdR r j)
          · rw [if_pos (show nI (dus (sdR r s)) < nI (duF r 1000000000 (some j)) from nI_lt c2 (by show dus (sdR r j) < _; omega)), if_pos ⟨rfl, c2⟩]
            exact go (some s) (fun j hj => by cases hj; exact hs)
          · rw [if_neg (show ¬ nI (dus (sdR r s)) < nI (duF r 1000000000 (some j)) from nI_nlt (by show dus (sdR r j) ≤ _; omega) (by omega)), if_neg (fun q => c2 q.2)]
            exact go (some j) hf
        · rw [q, if_neg n10b, if_neg (fun q => absurd q.1 (by omega))]
          exact go (some j) hf
  exact key (2 ^ r 0) FU 0 ρ none b (by omega) (FU_gt (by omega)) Fr.rf Bb (fun j hj => by cases hj)
theorem sim_stop : Sim_stop Rel := by
  intro ρ z0 x q o a1 hR hf
  obtain ⟨z, h, n, i, d, sf, se, mo, a, b, g, w, u, t, sk, sm, ⟨hx, hq, ho⟩, I, gd, sh⟩ := id hR
  subst hq ho
  subst hx
  obtain ⟨⟨g1, g2⟩, ⟨ea, ok, bt⟩, gi⟩ := id gd
  have hA : ArrR ρ (x + 37) n.1 := ea ▸ I.A
  have F := I.N.f ok.1.1
  have G := hA.f ok.1.1
  have X1 : gR ρ 2 x 0 = some (x + 1) := gR_at I.X rfl
  have M0 : ckO ρ 3 (x + 36) = some () := ckO_at I.O
  have M1 : gR ρ 3 (x + 36) 0 = some (x + 37) := gR_at I.O rfl
  rcases or_assoc.mpr (rng a1 (lo := 0) (hi := 1) (by omega) (by omega)) with c | ⟨p, -, hp, rfl⟩
  · refine ww0 hR (fm := fun ρ => fX10_stop ρ (x + 36) a1) ⟨-1, ?_, ?_⟩
    · unfold fX9_stop
      simp only [Option.bind_some, n10, if_false, x_z1_out ρ c, z00, if_true]
    · show fX10_stop ρ (x + 36) a1 = _
      unfold fX10_stop
      simp only [Option.bind_some, n10, if_false, show fX10_isIn ρ a1 0 1 = some (nI 0) from m_isIn_out ρ c, z00, if_true]
  obtain ⟨ρ1, e1, e2, e3⟩ := x_become I.N I.D (by omega) ok.1.1
  have I1 := I.uD (d' := n) (fun j hj hc => e2 (x + j) (by omega)) e3
  obtain ⟨ρ2, B2, c1, c2, c3⟩ := x_cheapest I1.D ok
  have I2 := I1.uD (d' := (n.1, B2)) (fun j hj hc => c2 (x + j) (by omega)) c3
  have h8 := ok.1.1
  have hp8 : 2 ^ n.1 0 ≤ 256 := Nat.pow_le_pow_right (by omega) h8
  have hlt := stFo_lt (r := n.1) (N := 2 ^ n.1 0) (2 ^ n.1 0) 0 none (by omega) (fun j hj => by cases hj)
  -- the class' last step
  have hx : ∃ v σ d', fX9_stop ρ x (nI p) = some (v, σ) ∧ Inv x h n i d' sf se mo a b g w u t sk sm σ ∧ v = stV n.1 (nI p) (stFo n.1 (2 ^ n.1 0) 0 none) := by
    unfold fX9_stop
    simp only [Option.bind_some, n10, if_false, x_z1_in ρ hp, I.X.n2, I.X.n0, (I.D.f0).1, e1, I1.X.n2, c1]
    generalize hs : stFo n.1 (2 ^ n.1 0) 0 none = f at hlt
    cases f with
    | none => exact ⟨_, ρ2, (n.1, B2), if_pos (show fv none < 0 by decide), I2, rfl⟩
    | some j =>
      have hj := hlt j rfl
      rw [if_neg (show ¬ fv (some j) < 0 from nI_pos (by omega)), stV]
      rcases (show p = 0 ∨ p = 1 by omega) with rfl | rfl
      · exact ⟨_, ρ2, (n.1, B2), if_pos rfl, I2, (if_pos rfl).symm⟩
      · rw [if_neg n10, if_neg n10b]
        obtain ⟨σ, s1, s2, s3⟩ := c3.ptB j
        have I3 := I2.uD (d' := (n.1, j)) (fun j hj hc => s2 (x + j) (by omega)) s3
        have ok2 := ok.st j
        have F2 := (s3.st j).f ok2.1.1
        refine ⟨_, σ, (n.1, j), ?_, I3, rfl⟩
        rw [I2.X.n2, Option.bind_some, show ptV ρ2 0 (x + 13) 6 (.int (fv (some j))) = some σ from s1, Option.bind_some, I3.X.n2, Option.bind_some, F2.1.1, Option.bind_some, x_openDues F2 (BitsR.st hj) ok2, Option.bind_some]
  obtain ⟨v, σ, d', x1, I3, hv⟩ := hx
  have A3 : ArrR σ (x + 37) n.1 := ea ▸ I3.A
  obtain ⟨ρ3, b3, m1, m2, m3⟩ := m_stop20 A3 I3.B I3.O ok (nI p)
  refine ⟨(), v, σ, (), ρ3, ckO_at I.X, x1, ckO_at I3.O, ?_, x, h, n, i, d', sf, se, mo, a, b3, g, w, u, t, sk, sm, ⟨rfl, rfl, rfl⟩, I3.uB (fun j hj hc => m2 (x + j) (by omega)) m3, gd, sh⟩
  unfold fX10_stop
  simp only [Option.bind_some, n10, if_false, show fX10_isIn σ (nI p) 0 1 = some (nI 1) from m_z1_in σ hp]
  rw [hv, fa_lit 4, fa_lit 1000000000]
  exact m1
