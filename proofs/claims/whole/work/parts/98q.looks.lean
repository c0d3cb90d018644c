/-! PURE: looks: the hours that tell all moving ones apart. -/
def pI (r : Nat → Nat) (w : Nat) : Nat → Int32
  | 0 => 0
  | h + 1 => if mov r w h = 0 then pI r w h else pI r w h ||| ((1 : Int32) <<< (nI h &&& 31))
theorem sh_nn : ∀ h, h < 24 → ¬ ((1 : Int32) <<< (nI h &&& 31)) < 0 := by decide +kernel
theorem nn_iff (v : Int32) : (v < 0) ↔ v.toBitVec.msb = true := by
  rw [Int32.lt_iff_toInt_lt, BitVec.msb_eq_toInt, decide_eq_true_iff]
  exact Iff.rfl
theorem or_nn {a b : Int32} (ha : ¬ a < 0) (hb : ¬ b < 0) : ¬ (a ||| b) < 0 := by
  rw [nn_iff] at ha hb ⊢
  rw [Int32.toBitVec_or, BitVec.msb_or]
  cases h : a.toBitVec.msb
  · cases h2 : b.toBitVec.msb
    · decide
    · exact absurd h2 hb
  · exact absurd h ha
theorem nn_le {v : Int32} (h : ¬ v < 0) : (0 : Int32) ≤ v := by
  rw [Int32.lt_iff_toInt_lt] at h
  rw [Int32.le_iff_toInt_le]
  exact Int.not_lt.mp h
theorem pI_nn (r : Nat → Nat) (w : Nat) : ∀ h, h ≤ 24 → ¬ pI r w h < 0 := by
  intro h
  induction h with
  | zero => exact fun _ => (by decide : ¬ (0 : Int32) < 0)
  | succ h ih =>
    intro hh
    rw [pI]
    by_cases c : mov r w h = 0
    · rw [if_pos c]; exact ih (by omega)
    · rw [if_neg c]; exact or_nn (ih (by omega)) (sh_nn h (by omega))
theorem xa_eq (a b v : Int32) : ((a ^^^ b) &&& v = 0) = (a &&& v = b &&& v) := by
  have e : (a ^^^ b) &&& v = (a &&& v) ^^^ (b &&& v) := by
    apply Int32.toBitVec_inj.mp
    rw [Int32.toBitVec_and, Int32.toBitVec_xor, Int32.toBitVec_xor, Int32.toBitVec_and, Int32.toBitVec_and]
    ext i hi
    rw [BitVec.getElem_and, BitVec.getElem_xor, BitVec.getElem_xor, BitVec.getElem_and, BitVec.getElem_and]
    cases a.toBitVec[i] <;> cases b.toBitVec[i] <;> cases v.toBitVec[i] <;> rfl
  rw [e]
  apply propext
  constructor
  · intro h
    have := congrArg (fun t => t ^^^ (b &&& v)) h
    simpa [Int32.xor_assoc] using this
  · intro h
    rw [h, Int32.xor_self]
def cf (r : Nat → Nat) (M : Int32) (a b : Nat) : Prop := b < r 0 ∧ r (9 + 5 * a + 4) = 0 ∧ r (9 + 5 * b + 4) = 0 ∧ pI r a 24 &&& M = pI r b 24 &&& M
def uP (r : Nat → Nat) (M : Int32) : Prop := ∀ a b, a < b → ¬ cf r M a b
def pc (r : Nat → Nat) (w : Nat) : Int32 := if w < r 0 ∧ r (9 + 5 * w + 4) = 0 then pI r w 24 else -1
theorem pc_in {r : Nat → Nat} {w : Nat} (h : w < r 0) (c : r (9 + 5 * w + 4) = 0) : pc r w = pI r w 24 := if_pos ⟨h, c⟩
theorem pc_out {r : Nat → Nat} {w : Nat} (h : ¬ (w < r 0 ∧ r (9 + 5 * w + 4) = 0)) : pc r w = -1 := if_neg h
theorem pc_neg {r : Nat → Nat} {w : Nat} : (pc r w < 0) = ¬ (w < r 0 ∧ r (9 + 5 * w + 4) = 0) := by
  by_cases c : w < r 0 ∧ r (9 + 5 * w + 4) = 0
  · rw [pc_in c.1 c.2]
    exact propext ⟨fun h => absurd h (pI_nn r w 24 (by omega)), fun h => absurd c h⟩
  · rw [pc_out c]
    exact propext ⟨fun _ => c, fun _ => by decide⟩
theorem x_hoursOf {ρ : Rho} {a B : Nat} {r : Nat → Nat} (F : HouseF ρ a r B) (bt : BitsR r B) (ok : OKr r) {w : Nat} (hw : w < r 0) : fX8_movingHoursOf ρ a (nI w) = some (pI r w 24) := by
  have key : ∀ k n i, i + k = 24 → k < n → fX8_movingHoursOf_4 ρ n a (nI w) (pI r w i) (nI i) = some (pI r w 24) := by
    intro k
    induction k with
    | zero =>
      intro n i hi hn
      obtain ⟨n, rfl⟩ : ∃ p0, n = p0 + 1 := ⟨n - 1, by omega⟩
      obtain rfl : i = 24 := by omega
      rw [fX8_movingHoursOf_4, if_pos (show (24 : Int32) ≤ nI 24 by decide)]
    | succ k ih =>
      intro n i hi hn
      obtain ⟨n, rfl⟩ : ∃ p0, n = p0 + 1 := ⟨n - 1, by omega⟩
      have e := ih n (i + 1) (by omega) (by omega)
      rw [pI] at e
      have m := mov_le (r := r) w i
      rw [fX8_movingHoursOf_4, if_neg (show ¬ (24 : Int32) ≤ nI i from nI_ge (b := 24) (by omega) (by omega)), F.1.1, Option.bind_some, x_isMoving F bt ok hw (by omega), Option.bind_some, fX8_movingHoursOf_25, fX8_movingHoursOf_25, nI_1]
      rcases (show mov r w i = 0 ∨ mov r w i = 1 by omega) with c | c
      · rw [if_pos c] at e
        rw [c, if_pos (show nI 0 = 0 from rfl)]
        exact e
      · rw [if_neg (by omega)] at e
        rw [c, if_neg n10]
        exact e
  exact key 24 FU 0 (by omega) (FU_gt (by omega))
def ZC (ρ ρ1 : Rho) (z : Nat) (r : Nat → Nat) : Prop := (∀ y, y ≠ z → ρ1 y = ρ y) ∧ ∃ f, ρ1 z = some (iC 8 f) ∧ ∀ w, w < 8 → f w = pc r w
theorem x_movingHours {ρ : Rho} {z a B : Nat} {r : Nat → Nat} (H : HouseR ρ a r B) (hz : a + 6 ≤ z) (bt : BitsR r B) (ok : OKr r) : ∃ ρ1, fX8_movingHours ρ z a = some (z, ρ1, z + 1) ∧ ZC ρ ρ1 z r := by
  have h8 := ok.1.1
  have key : ∀ k n i ρ1 f, i + k = 8 → k < n → (∀ y, y ≠ z → ρ1 y = ρ y) → ρ1 z = some (iC 8 f) → (∀ w, w < i → f w = pc r w) → ∃ ρ2, fX8_movingHours_7 n ρ1 (z + 1) a z (nI i) = some (z, ρ2, z + 1) ∧ ZC ρ ρ2 z r := by
    intro k
    induction k with
    | zero =>
      intro n i ρ1 f hi hn fr hf hw
      obtain ⟨n, rfl⟩ : ∃ p0, n = p0 + 1 := ⟨n - 1, by omega⟩
      obtain rfl : i = 8 := by omega
      rw [fX8_movingHours_7, if_pos (show (8 : Int32) ≤ nI 8 by decide)]
      exact ⟨ρ1, rfl, fr, f, hf, hw⟩
    | succ k ih =>
      intro n i ρ1 f hi hn fr hf hw
      obtain ⟨n, rfl⟩ : ∃ p0, n = p0 + 1 := ⟨n - 1, by omega⟩
      have H1 : HouseR ρ1 a r B := HouseR.fr (fun j hj => fr _ (by omega)) H
      have F := H1.f h8
      have go : ∀ v, v = pc r i → ∃ ρ2, fX8_movingHours_40 (fX8_movingHours_7 n) ρ1 (z + 1) a z (nI i) v (nI i) z = some (z, ρ2, z + 1) ∧ ZC ρ ρ2 z r := fun v hv => by
        rw [fX8_movingHours_40, stI_at hf (show i < 8 by omega) (by omega), Option.bind_some, nI_1]
        refine ih n (i + 1) _ (upd f i v) (by omega) (by omega) (fun y hy => (rset_n hy).trans (fr y hy)) rset_s (fun w h => ?_)
        rw [upd_if]
        by_cases c : w = i
        · rw [if_pos c, c]; exact hv
        · rw [if_neg c]; exact hw w (by omega)
      rw [fX8_movingHours_7, if_neg (show ¬ (8 : Int32) ≤ nI i from nI_ge (b := 8) (by omega) (by omega)), F.1.1, Option.bind_some]
      by_cases c : i < r 0
      · have h1 := (ok.2.2 i c).2.2.2.2
        rw [x_win_in F ok c, Option.bind_some, if_neg n10, Option.bind_some, x_isStopped F bt ok c, Option.bind_some]
        by_cases c2 : r (9 + 5 * i + 4) = 0
        · rw [c2, if_pos (show nI 0 = 0 from rfl), x_hoursOf F bt ok c, Option.bind_some]
          exact go _ (pc_in c c2).symm
        · rw [show r (9 + 5 * i + 4) = 1 by omega, if_neg n10, fX8_movingHours_31]
          exact go _ (pc_out (fun h => c2 h.2)).symm
      · rw [x_win_out F (Or.inr (nI_le (show r 0 ≤ i by omega) (by omega))), Option.bind_some, if_pos (of_eq_true z00), fX8_movingHours_31]
        exact go _ (pc_out (fun h => c h.1)).symm
  unfold fX8_movingHours
  rw [Option.bind_some]
  exact key 8 FU 0 _ (fun _ => 0) (by omega) (FU_gt (by omega)) (fun y hy => rset_n hy) rset_s (fun w h => by omega)
theorem x_unlike {ρ : Rho} {z : Nat} {r : Nat → Nat} {f : Nat → Int32} (h8 : r 0 ≤ 8) (hz : ρ z = some (iC 8 f)) (hf : ∀ w, w < 8 → f w = pc r w) (M : Int32) : (uP r M → fX8_areAllUnlike ρ z M = some (nI 1)) ∧ (¬ uP r M → fX8_areAllUnlike ρ z M = some (nI 0)) := by
  have inner : ∀ (k2 : Nat → Int32 → Int32 → Option Int32) b, b < 8 → ∀ k n i, i + k = b → k < n → ((∀ a, i ≤ a → a < b → ¬ cf r M a b) → fX8_areAllUnlike_10 ρ k2 n z M (nI b) (nI i) = k2 z M (nI (b + 1))) ∧ ((∃ a, i ≤ a ∧ a < b ∧ cf r M a b) → fX8_areAllUnlike_10 ρ k2 n z M (nI b) (nI i) = some (nI 0)) := by
    intro k2 b hb k
    induction k with
    | zero =>
      intro n i hi hn
      obtain ⟨n, rfl⟩ : ∃ p0, n = p0 + 1 := ⟨n - 1, by omega⟩
      obtain rfl : i = b := by omega
      refine ⟨fun _ => ?_, fun ⟨a, h1, h2, _⟩ => by omega⟩
      rw [fX8_areAllUnlike_10, if_pos (nI_le (Nat.le_refl _) (by omega)), nI_1]
    | succ k ih =>
      intro n i hi hn
      obtain ⟨n, rfl⟩ : ∃ p0, n = p0 + 1 := ⟨n - 1, by omega⟩
      obtain ⟨e1, e2⟩ := ih n (i + 1) (by omega) (by omega)
      have st : (¬ cf r M i b → fX8_areAllUnlike_10 ρ k2 (n + 1) z M (nI b) (nI i) = fX8_areAllUnlike_10 ρ k2 n z M (nI b) (nI (i + 1))) ∧ (cf r M i b → fX8_areAllUnlike_10 ρ k2 (n + 1) z M (nI b) (nI i) = some (nI 0)) := by
        have l1 : ldI ρ z (nI i) = some (pc r i) := (ldI_at hz (show i < 8 by omega) (by omega)).trans (by rw [hf i (by omega)])
        have l2 : ldI ρ z (nI b) = some (pc r b) := (ldI_at hz hb (by omega)).trans (by rw [hf b hb])
        rw [fX8_areAllUnlike_10, if_neg (nI_ge (show i < b by omega) (by omega)), l1, Option.bind_some, l2, Option.bind_some, Option.bind_some, Option.bind_some, fX8_areAllUnlike_41, nI_1]
        by_cases c1 : i < r 0 ∧ r (9 + 5 * i + 4) = 0
        · rw [if_neg (show ¬ pc r i < 0 from fun h => (pc_neg.mp h) c1)]
          by_cases c2 : b < r 0 ∧ r (9 + 5 * b + 4) = 0
          · rw [if_neg (show ¬ pc r b < 0 from fun h => (pc_neg.mp h) c2), pc_in c1.1 c1.2, pc_in c2.1 c2.2]
            constructor
            · intro h
              rw [if_neg (show ¬ (pI r i 24 ^^^ pI r b 24) &&& M = 0 from fun q => h ⟨c2.1, c1.2, c2.2, (xa_eq _ _ _).mp q⟩)]
            · intro h
              rw [if_pos ((xa_eq _ _ _).mpr h.2.2.2)]
              rfl
          · rw [if_pos (pc_neg.mpr c2)]
            exact ⟨fun _ => rfl, fun h => absurd ⟨h.1, h.2.2.1⟩ c2⟩
        · rw [if_pos (pc_neg.mpr c1)]
          exact ⟨fun _ => rfl, fun h => absurd ⟨by have := h.1; omega, h.2.1⟩ c1⟩
      constructor
      · intro h
        rw [st.1 (h i (by omega) (by omega))]
        exact e1 (fun a h1 h2 => h a (by omega) h2)
      · rintro ⟨a, h1, h2, h3⟩
        by_cases c : cf r M i b
        · exact st.2 c
        · rw [st.1 c]
          refine e2 ⟨a, ?_, h2, h3⟩
          by_cases q : a = i
          · subst q; exact absurd h3 c
          · omega
  have outer : ∀ k n b, b + k = 8 → k < n → ((∀ b', b ≤ b' → b' < 8 → ∀ a, a < b' → ¬ cf r M a b') → fX8_areAllUnlike_2 ρ n z M (nI b) = some (nI 1)) ∧ ((∃ b', b ≤ b' ∧ b' < 8 ∧ ∃ a, a < b' ∧ cf r M a b') → fX8_areAllUnlike_2 ρ n z M (nI b) = some (nI 0)) := by
    intro k
    induction k with
    | zero =>
      intro n b hi hn
      obtain ⟨n, rfl⟩ : ∃ p0, n = p0 + 1 := ⟨n - 1, by omega⟩
      obtain rfl : b = 8 := by omega
      refine ⟨fun _ => ?_, fun ⟨b', h1, h2, _⟩ => by omega⟩
      unfold fX8_areAllUnlike_2 lenI
      rw [hz]
      rfl
    | succ k ih =>
      intro n b hi hn
      obtain ⟨n, rfl⟩ : ∃ p0, n = p0 + 1 := ⟨n - 1, by omega⟩
      obtain ⟨e1, e2⟩ := ih n (b + 1) (by omega) (by omega)
      obtain ⟨i1, i2⟩ := inner (fX8_areAllUnlike_2 ρ n) b (by omega) b FU 0 (by omega) (FU_gt (by omega))
      have st : fX8_areAllUnlike_2 ρ (n + 1) z M (nI b) = fX8_areAllUnlike_10 ρ (fX8_areAllUnlike_2 ρ n) FU z M (nI b) (nI 0) := by
        have l : lenI ρ z = some (nI 8) := by
          unfold lenI
          rw [hz]
          rfl
        rw [fX8_areAllUnlike_2, l, Option.bind_some, if_neg (nI_ge (show b < 8 by omega) (by omega))]
        rfl
      rw [st]
      constructor
      · intro h
        rw [i1 (fun a _ h2 => h b (by omega) (by omega) a h2)]
        exact e1 (fun b' h1 h2 => h b' (by omega) h2)
      · rintro ⟨b', h1, h2, a, h3, h4⟩
        by_cases c : ∃ a, 0 ≤ a ∧ a < b ∧ cf r M a b
        · exact i2 c
        · rw [i1 (fun a q1 q2 q3 => c ⟨a, q1, q2, q3⟩)]
          refine e2 ⟨b', ?_, h2, a, h3, h4⟩
          by_cases q : b' = b
          · subst q; exact absurd ⟨a, by omega, h3, h4⟩ c
          · omega
  obtain ⟨o1, o2⟩ := outer 7 FU 1 (by omega) (FU_gt (by omega))
  constructor
  · intro h
    exact o1 (fun b _ _ a ha => h a b ha)
  · intro h
    refine o2 ?_
    have : ∃ a b, a < b ∧ cf r M a b := by
      refine Classical.byContradiction (fun q => h (fun a b hab hc => q ⟨a, b, hab, hc⟩))
    obtain ⟨a, b, hab, hc⟩ := this
    exact ⟨b, by omega, by have := hc.1; omega, a, hab, hc⟩
