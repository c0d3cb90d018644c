/-! PURE: mirrors, and how many bits a set has. -/
def bc (s : Nat) : Nat := sumTo 8 (fun i => s / 2 ^ i % 2)
theorem bits_at : ∀ s, s < 256 → fX10_bits ρN (nI s) = some (nI (bc s)) := by decide +kernel
theorem bcnt_at : ∀ s, s < 256 → fJ6_bitCount ρN (nI s) = some (nI (bc s)) := by decide +kernel
theorem bits_N (ρ : Rho) : ∀ n a b c, fX10_bits_4 ρ n a b c = fX10_bits_4 ρN n a b c := by
  intro n
  induction n with
  | zero => exact fun _ _ _ => rfl
  | succ n ih =>
    intro a b c
    rw [fX10_bits_4, fX10_bits_4]
    simp only [ih]
theorem m_bits (ρ : Rho) {s : Nat} (h : s < 256) : fX10_bits ρ (nI s) = some (nI (bc s)) := by
  have := bits_at s h
  unfold fX10_bits at this ⊢
  rw [bits_N]
  exact this
theorem x_bits (ρ : Rho) {s : Nat} (h : s < 256) : fJ6_bitCount ρ (nI s) = some (nI (bc s)) := bcnt_at s h
theorem bit_has : ∀ s, s < 256 → ∀ i, i < 8 → (nI s >>> (nI i &&& nI 31)) &&& nI 1 = nI (s / 2 ^ i % 2) := by decide +kernel
theorem or_set : ∀ i, i < 8 → ∀ a, a < 2 ^ i → nI a ||| (nI 1 <<< (nI i &&& nI 31)) = nI (a + 2 ^ i) := by decide +kernel
theorem bc_le (s : Nat) : bc s ≤ 8 := by
  have := sumTo_le (n := 8) (b := 1) (f := fun i => s / 2 ^ i % 2) (fun i _ => by omega)
  unfold bc
  omega
def q4 (a b c d : Bool) (i : Nat) : Bool := if i = 0 then a else if i = 1 then b else if i = 2 then c else d
def mOk (c e : Nat → Bool) (s k i : Nat) : Bool := match k with
  | 0 => true
  | k + 1 => (if s / 2 ^ i % 2 = 1 then !e i else !c i) && mOk c e s k (i + 1)
def mSt (c e : Nat → Bool) (i : Nat) (f : Option Nat) : Option Nat := match f with
  | none => if mOk c e i 4 0 = true then some i else none
  | some j => if bc i < bc j ∧ mOk c e i 4 0 = true then some i else some j
def mFo (c e : Nat → Bool) (k i : Nat) (f : Option Nat) : Option Nat := match k with
  | 0 => f
  | k + 1 => mFo c e k (i + 1) (mSt c e i f)
def xFo (c e : Nat → Bool) (k i a : Nat) : Option Nat := match k with
  | 0 => some a
  | k + 1 => if e i then none else xFo c e k (i + 1) (if c i then a + 2 ^ i else a)
theorem mirr_same : ∀ c0 c1 c2 c3 e0 e1 e2 e3 : Bool, ((!e0 || c0) && ((!e1 || c1) && ((!e2 || c2) && (!e3 || c3)))) = true → xFo (q4 c0 c1 c2 c3) (q4 e0 e1 e2 e3) 4 0 0 = mFo (q4 c0 c1 c2 c3) (q4 e0 e1 e2 e3) 16 0 none := by
  intro c0 c1 c2 c3 e0 e1 e2 e3
  revert c0 c1 c2 c3 e0 e1 e2 e3
  decide +kernel
def fv (f : Option Nat) : Int32 := match f with
  | none => -nI 4
  | some j => nI j
section RD
variable {ρ : Rho} {x q B : Nat} {r : Nat → Nat}
theorem s_mirrX (F : HouseF ρ (x + 1) r B) (bt : BitsR r B) (ok : OKr r) {c e : Nat → Bool} (hc : ∀ i, i < 4 → c i = decide (lit r i (r 1) < r (5 + i))) (he : ∀ i, i < 4 → e i = decide (2 * lit r i (r 1) < r (5 + i))) : fX2_fewestMirrors ρ (x + 1) = some (fv (xFo c e 4 0 0)) := by
  have hh := ok.1.2.1
  have key : ∀ k n i a, i + k = 4 → k < n → a < 2 ^ i → fX2_fewestMirrors_4 ρ n (x + 1) (nI a) (nI i) = some (fv (xFo c e k i a)) := by
    intro k
    induction k with
    | zero =>
      intro n i a hi hn
      obtain ⟨n, rfl⟩ : ∃ p0, n = p0 + 1 := ⟨n - 1, by omega⟩
      obtain rfl : i = 4 := by omega
      rw [fX2_fewestMirrors_4, xFo]
      exact fun _ => rfl
    | succ k ih =>
      intro n i a hi hn
      obtain ⟨n, rfl⟩ : ∃ p0, n = p0 + 1 := ⟨n - 1, by omega⟩
      have hlt : i < 4 := by omega
      rw [fX2_fewestMirrors_4, xFo]
      intro ha
      have b1 := lit_le ok (room := i) hh
      have b2 := ok.2.1 i hlt
      have b3 : lck r i (r 1) = r (5 + i) - lit r i (r 1) := rfl
      simp (disch := omega) only [Option.bind_some, fa_lit, nI_add, pk_mul, nI_leI, nI_ltI, nI_eq, nb_0, nb_1, if_true, if_false, cnle hlt, F.2.1.2.2.1, F.1.1, x_lackOf F bt ok hlt hh, x_roomLight F bt ok hlt hh, fX2_fewestMirrors_45, or_set i (show i < 8 by omega) a ha]
      by_cases d2 : 2 * lit r i (r 1) < r (5 + i)
      · rw [if_neg (show ¬ lck r i (r 1) ≤ lit r i (r 1) by omega), he i hlt, decide_eq_true d2, if_pos rfl]
        rfl
      · rw [if_pos (show lck r i (r 1) ≤ lit r i (r 1) by omega), he i hlt, decide_eq_false d2, if_neg (show ¬ (false = true) by decide)]
        by_cases d1 : lit r i (r 1) < r (5 + i)
        · rw [if_neg (show ¬ lck r i (r 1) ≤ 0 by omega), hc i hlt, decide_eq_true d1, if_pos rfl]
          exact ih n (i + 1) (a + 2 ^ i) (by omega) (by omega) (by rw [Nat.pow_succ]; omega)
        · rw [if_pos (show lck r i (r 1) ≤ 0 by omega), hc i hlt, decide_eq_false d1, if_neg (show ¬ (false = true) by decide)]
          exact ih n (i + 1) a (by omega) (by omega) (by rw [Nat.pow_succ]; omega)
  exact key 4 FU 0 0 (by omega) (FU_gt (by omega)) (by decide)
theorem s_mirrM (ok : OKr r) (M1 : gR ρ 3 q 0 = some (x + 37)) (G : ArrF ρ (x + 37) r) {c e : Nat → Bool} (hc : ∀ i, i < 4 → c i = decide (lit r i (r 1) < r (5 + i))) (he : ∀ i, i < 4 → e i = decide (2 * lit r i (r 1) < r (5 + i))) : fX10_mirrors ρ q = some (fv (mFo c e 16 0 none)) := by
  have hh := ok.1.2.1
  have G1 : ldI ρ (x + 37) (nI 1) = some (nI (r 1)) := G.1 1 (by omega)
  have inner : ∀ k n i b s v k5, i + k = 4 → k < n → b ≤ 1 → s < 16 → fX10_mirrors_35 ρ k5 n q v (nI s) (nI b) (nI i) = if b = 1 ∧ mOk c e s k i = true then k5 q (nI s) (nI (s + 1)) else k5 q v (nI (s + 1)) := by
    intro k
    induction k with
    | zero =>
      intro n i b s v k5 hi hn hb hs
      obtain ⟨n, rfl⟩ : ∃ p0, n = p0 + 1 := ⟨n - 1, by omega⟩
      obtain rfl : i = 4 := by omega
      rw [fX10_mirrors_35, mOk]
      simp (disch := omega) only [Option.bind_some, fa_lit, nI_add, pk_mul, nI_leI, nI_ltI, nI_eq, nb_0, nb_1, if_true, if_false, cle (show 4 ≤ 4 by omega), fX10_mirrors_103]
      rcases (show b = 0 ∨ b = 1 by omega) with rfl | rfl
      · rw [if_pos rfl, if_neg (by decide)]
      · rw [if_neg (by decide), if_pos (by decide)]
    | succ k ih =>
      intro n i b s v k5 hi hn hb hs
      obtain ⟨n, rfl⟩ : ∃ p0, n = p0 + 1 := ⟨n - 1, by omega⟩
      have hlt : i < 4 := by omega
      have b1 := lit_le ok (room := i) hh
      have b2 := ok.2.1 i hlt
      have hN := m_need G hlt
      rw [fX10_mirrors_35, mOk, if_neg (show ¬ (4 : Int32) ≤ nI i from nI_ge (b := 4) hlt (by omega)), M1, Option.bind_some, hN, Option.bind_some, Option.bind_some, Option.bind_some, fa_lit 1, G1, Option.bind_some, m_lightOf G ok hlt hh, Option.bind_some, m_has, bit_has s (by omega) i (by omega), Option.bind_some]
      have hand : ∀ y, y ≤ 1 → nI b &&& nI y = nI (b * y) := fun y hy => by
        rcases (show b = 0 ∨ b = 1 by omega) with rfl | rfl <;> rcases (show y = 0 ∨ y = 1 by omega) with rfl | rfl <;> rfl
      rcases (show s / 2 ^ i % 2 = 0 ∨ s / 2 ^ i % 2 = 1 by omega) with t | t
      · rw [t, if_pos (show nI 0 = 0 from rfl), if_neg (show ¬ (0 = 1) by decide), hc i hlt]
        simp (disch := omega) only [Option.bind_some, fa_lit, nI_add, pk_mul, nI_leI, nI_ltI, nI_eq, nb_0, nb_1, if_true, if_false, fX10_mirrors_80, fX10_mirrors_89, Nat.mul_one, hand 0 (by omega), hand 1 (by omega)]
        by_cases d : lit r i (r 1) < r (5 + i)
        · rw [if_pos d, ih n (i + 1) (b * 0) s v k5 (by omega) (by omega) (by omega) hs, decide_eq_true d]
          simp
        · rw [if_neg d, ih n (i + 1) b s v k5 (by omega) (by omega) (by omega) hs, decide_eq_false d]
          simp
      · rw [t, if_neg n10, if_pos rfl, he i hlt]
        simp (disch := omega) only [Option.bind_some, fa_lit, nI_add, pk_mul, nI_leI, nI_ltI, nI_eq, nb_0, nb_1, if_true, if_false, fX10_mirrors_80, fX10_mirrors_89, Nat.mul_one, hand 0 (by omega), hand 1 (by omega)]
        by_cases d : 2 * lit r i (r 1) < r (5 + i)
        · rw [if_pos (by omega), ih n (i + 1) (b * 0) s v k5 (by omega) (by omega) (by omega) hs, decide_eq_true d]
          simp
        · rw [if_neg (by omega), ih n (i + 1) b s v k5 (by omega) (by omega) (by omega) hs, decide_eq_false d]
          simp
  have key : ∀ k n i f, i + k = 16 → k < n → (∀ j, f = some j → j < 16) → fX10_mirrors_5 ρ n q (fv f) (nI i) = some (fv (mFo c e k i f)) := by
    intro k
    induction k with
    | zero =>
      intro n i f hi hn
      obtain ⟨n, rfl⟩ : ∃ p0, n = p0 + 1 := ⟨n - 1, by omega⟩
      obtain rfl : i = 16 := by omega
      rw [fX10_mirrors_5, mFo]
      exact fun _ => rfl
    | succ k ih =>
      intro n i f hi hn
      obtain ⟨n, rfl⟩ : ∃ p0, n = p0 + 1 := ⟨n - 1, by omega⟩
      have hlt : i < 16 := by omega
      rw [fX10_mirrors_5, mFo]
      intro hf
      rw [if_neg (show ¬ (16 : Int32) ≤ nI i from nI_ge (b := 16) hlt (by omega)), m_bits ρ (show i < 256 by omega), Option.bind_some]
      cases f with
      | none =>
        rw [show fv none = -nI 4 from rfl, if_pos (show -nI 4 < 0 by decide), fX10_mirrors_26, fX10_mirrors_31, fa_lit 0, fa_lit 1, inner 4 FU 0 1 i _ _ (by omega) (FU_gt (by omega)) (by omega) hlt]
        show _ = some (fv (mFo c e k (i + 1) (if mOk c e i 4 0 = true then some i else none)))
        by_cases d : mOk c e i 4 0 = true
        · rw [if_pos ⟨rfl, d⟩, if_pos d]
          exact ih n (i + 1) (some i) (by omega) (by omega) (fun j hj => by cases hj; exact hlt)
        · rw [if_neg (fun h => d h.2), if_neg d]
          exact ih n (i + 1) none (by omega) (by omega) (fun j hj => by cases hj)
      | some j =>
        have hj := hf j rfl
        have c1 := bc_le i
        have c2 := bc_le j
        rw [show fv (some j) = nI j from rfl, if_neg (nI_pos (by omega)), m_bits ρ (show j < 256 by omega), Option.bind_some]
        show _ = some (fv (mFo c e k (i + 1) (if bc i < bc j ∧ mOk c e i 4 0 = true then some i else some j)))
        by_cases d0 : bc i < bc j
        · rw [if_neg (nI_ge d0 (by omega)), fX10_mirrors_26, fX10_mirrors_31, fa_lit 0, fa_lit 1, inner 4 FU 0 1 i _ _ (by omega) (FU_gt (by omega)) (by omega) hlt]
          by_cases d : mOk c e i 4 0 = true
          · rw [if_pos ⟨rfl, d⟩, if_pos ⟨d0, d⟩]
            exact ih n (i + 1) (some i) (by omega) (by omega) (fun j hj => by cases hj; exact hlt)
          · rw [if_neg (fun h => d h.2), if_neg (fun h => d h.2)]
            exact ih n (i + 1) (some j) (by omega) (by omega) hf
        · rw [if_pos (nI_le (by omega) (by omega)), fX10_mirrors_31, fa_lit 0, inner 4 FU 0 0 i _ _ (by omega) (FU_gt (by omega)) (by omega) hlt, if_neg (fun h => absurd h.1 (by decide)), if_neg (fun h => d0 h.1)]
          exact ih n (i + 1) (some j) (by omega) (by omega) hf
  exact key 16 FU 0 none (by omega) (FU_gt (by omega)) (fun j hj => by cases hj)
end RD
theorem sim_mirrors : Sim_mirrors Rel := by
  intro ρ z x q o  hR hf
  obtain ⟨r, B, ⟨X0, X1⟩, ⟨M0, M1⟩, F, G, bt, ok⟩ := hR.c
  refine rr hR ?_
  have im : ∀ i, decide (2 * lit r i (r 1) < r (5 + i)) = true → decide (lit r i (r 1) < r (5 + i)) = true := fun i h => decide_eq_true (by have := of_decide_eq_true h; omega)
  have hq : ∀ (f : Nat → Bool) i, i < 4 → q4 (f 0) (f 1) (f 2) (f 3) i = f i := fun f i hi => by
    rcases (show i = 0 ∨ i = 1 ∨ i = 2 ∨ i = 3 by omega) with rfl | rfl | rfl | rfl <;> rfl
  have hc := hq (fun i => decide (lit r i (r 1) < r (5 + i)))
  have he := hq (fun i => decide (2 * lit r i (r 1) < r (5 + i)))
  unfold fX9_mirrors
  have hi : ∀ a b : Bool, (a = true → b = true) → (!a || b) = true := by decide
  rw [X1, Option.bind_some, s_mirrX F bt ok hc he, s_mirrM ok M1 G hc he, mirr_same _ _ _ _ _ _ _ _ (by rw [hi _ _ (im 0), hi _ _ (im 1), hi _ _ (im 2), hi _ _ (im 3)]; rfl)]
  exact ⟨_, rfl, rfl⟩
