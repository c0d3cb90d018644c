/-! PURE, THE BASE: numbers, sums, a house in one row of numbers. -/
theorem fa_lit (n : Nat) : (OfNat.ofNat n : Int32) = nI n := rfl
theorem nb_0 : nb (nI 0) = some (nI 0) := rfl
theorem nb_1 : nb (nI 1) = some (nI 1) := rfl
theorem nb_b {x : Nat} (h : x ≤ 1) : nb (nI x) = some (nI x) := by
  rcases (show x = 0 ∨ x = 1 by omega) with rfl | rfl <;> rfl
theorem FU_gt {k : Nat} (h : k < 100000) : k < FU := h
def sumTo (n : Nat) (f : Nat → Nat) : Nat := match n with
  | 0 => 0
  | n + 1 => sumTo n f + f n
theorem sumTo_le {n b : Nat} {f : Nat → Nat} (h : ∀ i, i < n → f i ≤ b) : sumTo n f ≤ n * b := by
  induction n with
  | zero => simp [sumTo]
  | succ n ih =>
    have h1 := ih (fun i hi => h i (by omega))
    have h2 := h n (by omega)
    have h3 : (n + 1) * b = n * b + b := Nat.succ_mul n b
    show sumTo n f + f n ≤ _
    omega
theorem sumTo_congr {n : Nat} {f g : Nat → Nat} (h : ∀ i, i < n → f i = g i) : sumTo n f = sumTo n g := by
  induction n with
  | zero => rfl
  | succ n ih =>
    show sumTo n f + f n = sumTo n g + g n
    rw [ih (fun i hi => h i (by omega)), h n (by omega)]
theorem sumTo_add {n : Nat} {f g : Nat → Nat} : sumTo n (fun i => f i + g i) = sumTo n f + sumTo n g := by
  induction n with
  | zero => rfl
  | succ n ih =>
    show sumTo n (fun i => f i + g i) + (f n + g n) = (sumTo n f + f n) + (sumTo n g + g n)
    omega
theorem sumTo_mul {n c : Nat} {f : Nat → Nat} : sumTo n (fun i => f i * c) = sumTo n f * c := by
  induction n with
  | zero => simp [sumTo]
  | succ n ih =>
    show sumTo n (fun i => f i * c) + f n * c = (sumTo n f + f n) * c
    rw [ih, Nat.add_mul]
theorem nI_maxsub {a b : Nat} (ha : a < 2 ^ 30) (hb : b < 2 ^ 30) : (if nI 0 < nI a - nI b then nI a - nI b else nI 0) = nI (a - b) := by
  by_cases h : b < a
  · rw [pk_sub (by omega), if_pos ((nI_ltI (by omega) (by omega)).mpr (by omega))]
  · have e : a - b = 0 := by omega
    rw [e, if_neg]
    intro q
    rw [Int32.lt_iff_toInt_lt, pk_sub_toInt ha hb, nI_toInt (by omega)] at q
    omega
theorem inb_nI {w n : Nat} (h : w < n) (hn : n < 2 ^ 31) : inb (nI w) n = true := by
  unfold inb
  have h1 : ¬ nI w < 0 := nI_pos (by omega)
  simp [h1, nI_clamp (show w < 2 ^ 31 by omega), h]
theorem ldI_at {ρ : Rho} {a n w : Nat} {f : Nat → Int32} (h : ρ a = some (iC n f)) (hw : w < n) (hn : n < 2 ^ 31) : ldI ρ a (nI w) = some (f w) := by
  unfold ldI
  rw [h]
  show (if inb (nI w) n then some (f (nI w).toNatClampNeg) else none) = _
  rw [inb_nI hw hn, nI_clamp (by omega)]
  rfl
theorem ldR_at {ρ : Rho} {a n w : Nat} {f : Nat → Option Nat} (h : ρ a = some (rC n f)) (hw : w < n) (hn : n < 2 ^ 31) : ldR ρ a (nI w) = f w := by
  unfold ldR
  rw [h]
  show (if inb (nI w) n then f (nI w).toNatClampNeg else none) = _
  rw [inb_nI hw hn, nI_clamp (by omega)]
  rfl
theorem stI_at {ρ : Rho} {a n w : Nat} {f : Nat → Int32} {v : Int32} (h : ρ a = some (iC n f)) (hw : w < n) (hn : n < 2 ^ 31) : stI ρ a (nI w) v = some (rset ρ a (iC n (upd f w v))) := by
  unfold stI
  rw [h]
  show (if inb (nI w) n then some (rset ρ a (iC n (upd f (nI w).toNatClampNeg v))) else none) = _
  rw [inb_nI hw hn, nI_clamp (by omega)]
  rfl
theorem obF_at {ρ : Rho} {ci a : Nat} {fs : List Value} (h : ρ a = some (oC ci fs)) : obF ρ ci a = some fs := by
  unfold obF
  rw [h]
  show (if ci = ci then some fs else none) = _
  rw [if_pos rfl]
theorem gI_at {ρ : Rho} {ci a k : Nat} {fs : List Value} {v : Int32} (h : ρ a = some (oC ci fs)) (hk : fs[k]? = some (.int v)) : gI ρ ci a k = some v := by
  unfold gI
  rw [obF_at h, Option.bind_some, hk]
  rfl
theorem gR_at {ρ : Rho} {ci a k v : Nat} {fs : List Value} (h : ρ a = some (oC ci fs)) (hk : fs[k]? = some (.ref v)) : gR ρ ci a k = some v := by
  unfold gR
  rw [obF_at h, Option.bind_some, hk]
  rfl
theorem ckO_at {ρ : Rho} {ci a : Nat} {fs : List Value} (h : ρ a = some (oC ci fs)) : ckO ρ ci a = some () := by
  unfold ckO
  rw [obF_at h, Option.bind_some]
theorem ptV_at {ρ : Rho} {ci a k : Nat} {fs : List Value} {v : Value} (h : ρ a = some (oC ci fs)) (hk : k < fs.length) : ptV ρ ci a k v = some (rset ρ a (oC ci (fs.set k v))) := by
  unfold ptV
  rw [obF_at h, Option.bind_some, if_pos hk]
theorem rset_s {ρ : Rho} {a : Nat} {c : AC} : rset ρ a c a = some c := by
  unfold rset
  rw [if_pos rfl]
theorem rset_n {ρ : Rho} {a b : Nat} {c : AC} (h : b ≠ a) : rset ρ a c b = ρ b := by
  unfold rset
  rw [if_neg h]
/-- a house in one row of numbers: 0 how many, 1 hour, 2 year, 3 owed, 4 rate, 5.. needs, 9 + 5 w .. kind, figure, room, facing, stopped -/
def OKr (r : Nat → Nat) : Prop := (r 0 ≤ 8 ∧ r 1 < 24 ∧ r 2 ≤ 999 ∧ r 3 ≤ 99999 ∧ 1 ≤ r 4 ∧ r 4 ≤ 9) ∧ (∀ i, i < 4 → r (5 + i) ≤ 20) ∧ ∀ w, w < r 0 → r (9 + 5 * w) < 8 ∧ r (9 + 5 * w + 1) < 10 ∧ r (9 + 5 * w + 2) < 4 ∧ r (9 + 5 * w + 3) < 24 ∧ r (9 + 5 * w + 4) ≤ 1
def BitsR (r : Nat → Nat) (B : Nat) : Prop := B < 2 ^ r 0 ∧ ∀ w, w < r 0 → r (9 + 5 * w + 4) = B / 2 ^ w % 2
def HouseR (ρ : Rho) (a : Nat) (r : Nat → Nat) (B : Nat) : Prop := ∃ (f1 f2 f3 f4 f5 : Nat → Int32),
  ρ a = some (oC 0 [.ref (a + 1), .ref (a + 2), .ref (a + 3), .ref (a + 4), .ref (a + 5), .int (nI (r 0)), .int (nI B), .int (nI (r 1)), .int (nI (r 2)), .int (nI (r 3)), .int (nI (r 4))]) ∧
  (ρ (a + 1) = some (iC 8 f1) ∧ ρ (a + 2) = some (iC 8 f2) ∧ ρ (a + 3) = some (iC 8 f3) ∧ ρ (a + 4) = some (iC 8 f4) ∧ ρ (a + 5) = some (iC 4 f5)) ∧
  (∀ w, w < r 0 → f1 w = nI (r (9 + 5 * w)) ∧ f2 w = nI (r (9 + 5 * w + 1)) ∧ f3 w = nI (r (9 + 5 * w + 2)) ∧ f4 w = nI (r (9 + 5 * w + 3))) ∧ ∀ i, i < 4 → f5 i = nI (r (5 + i))
/-- what the reading methods of a house use of it -/
def HouseF (ρ : Rho) (a : Nat) (r : Nat → Nat) (B : Nat) : Prop := (ckO ρ 0 a = some () ∧ gR ρ 0 a 0 = some (a + 1) ∧ gR ρ 0 a 1 = some (a + 2) ∧ gR ρ 0 a 2 = some (a + 3) ∧ gR ρ 0 a 3 = some (a + 4) ∧ gR ρ 0 a 4 = some (a + 5)) ∧
  (gI ρ 0 a 5 = some (nI (r 0)) ∧ gI ρ 0 a 6 = some (nI B) ∧ gI ρ 0 a 7 = some (nI (r 1)) ∧ gI ρ 0 a 8 = some (nI (r 2)) ∧ gI ρ 0 a 9 = some (nI (r 3)) ∧ gI ρ 0 a 10 = some (nI (r 4))) ∧
  (∀ w, w < r 0 → ldI ρ (a + 1) (nI w) = some (nI (r (9 + 5 * w))) ∧ ldI ρ (a + 2) (nI w) = some (nI (r (9 + 5 * w + 1))) ∧ ldI ρ (a + 3) (nI w) = some (nI (r (9 + 5 * w + 2))) ∧ ldI ρ (a + 4) (nI w) = some (nI (r (9 + 5 * w + 3)))) ∧
  ∀ i, i < 4 → ldI ρ (a + 5) (nI i) = some (nI (r (5 + i)))
theorem HouseR.f {ρ : Rho} {a : Nat} {r : Nat → Nat} {B : Nat} (h : HouseR ρ a r B) (h8 : r 0 ≤ 8) : HouseF ρ a r B := by
  obtain ⟨f1, f2, f3, f4, f5, h0, ⟨h1, h2, h3, h4, h5⟩, hw, hi⟩ := h
  refine ⟨⟨ckO_at h0, gR_at h0 rfl, gR_at h0 rfl, gR_at h0 rfl, gR_at h0 rfl, gR_at h0 rfl⟩, ⟨gI_at h0 rfl, gI_at h0 rfl, gI_at h0 rfl, gI_at h0 rfl, gI_at h0 rfl, gI_at h0 rfl⟩, fun w hlt => ?_, fun i hlt => ?_⟩
  · obtain ⟨g1, g2, g3, g4⟩ := hw w hlt
    refine ⟨?_, ?_, ?_, ?_⟩
    · rw [ldI_at h1 (by omega) (by omega), g1]
    · rw [ldI_at h2 (by omega) (by omega), g2]
    · rw [ldI_at h3 (by omega) (by omega), g3]
    · rw [ldI_at h4 (by omega) (by omega), g4]
  · rw [ldI_at h5 (by omega) (by omega), hi i hlt]
theorem bit_get : ∀ B, B < 256 → ∀ w, w < 8 → (nI B >>> (nI w &&& 31)) &&& 1 = nI (B / 2 ^ w % 2) := by decide +kernel
theorem BitsR.lt {r : Nat → Nat} {B : Nat} (h : BitsR r B) (h8 : r 0 ≤ 8) : B < 256 := Nat.lt_of_lt_of_le h.1 (Nat.pow_le_pow_right (by omega) h8)
/-! what is asked of a house, in numbers -/
def apR (r : Nat → Nat) (w h : Nat) : Nat := apt (r (9 + 5 * w + 3)) h
def shn (r : Nat → Nat) (w h : Nat) : Nat := if r (9 + 5 * w + 4) = 0 then shn0 (r (9 + 5 * w)) (r (9 + 5 * w + 1)) (apR r w h) else 0
def mov (r : Nat → Nat) (w h : Nat) : Nat := if r (9 + 5 * w + 4) = 0 then mov0 (r (9 + 5 * w)) (r (9 + 5 * w + 1)) (apR r w h) h else 0
def usem (r : Nat → Nat) (w h : Nat) : Nat := sem0 (r (9 + 5 * w)) (r (9 + 5 * w + 1)) (apR r w h) h
def sem (r : Nat → Nat) (w h : Nat) : Nat := if r (9 + 5 * w + 4) = 0 then usem r w h else 0
def lit (r : Nat → Nat) (room h : Nat) : Nat := sumTo (r 0) (fun w => if r (9 + 5 * w + 2) = room then shn r w h else 0)
def alit (r : Nat → Nat) (h : Nat) : Nat := sumTo (r 0) (fun w => shn r w h)
def lck (r : Nat → Nat) (room h : Nat) : Nat := r (5 + room) - lit r room h
def drk (r : Nat → Nat) (h : Nat) : Nat := if lck r 0 h = 0 ∧ lck r 1 h = 0 ∧ lck r 2 h = 0 ∧ lck r 3 h = 0 then 0 else 1
def dus (r : Nat → Nat) : Nat := sumTo (r 0) (fun w => if r (9 + 5 * w + 4) = 0 then due0 (r (9 + 5 * w)) (r (9 + 5 * w + 1)) else 0) * r 4
def mvD (r : Nat → Nat) (h : Nat) : Nat := sumTo (r 0) (fun w => mov r w h * (r (9 + 5 * w + 1) + 1))
def mvN (r : Nat → Nat) (h : Nat) : Nat := sumTo (r 0) (fun w => mov r w h)
def yrO (r : Nat → Nat) (o h : Nat) : Nat := if o + dus r + mvD r h * r 4 < 99999 then o + dus r + mvD r h * r 4 else 99999
theorem shn0_le : ∀ k, k < 8 → ∀ f, f < 10 → ∀ a, a < 13 → shn0 k f a ≤ 12 := by decide +kernel
theorem due0_le : ∀ k, k < 8 → ∀ f, f < 10 → due0 k f ≤ 20 := by decide +kernel
theorem mov0_le (k f a h : Nat) : mov0 k f a h ≤ 1 := by
  unfold mov0
  repeat' split
  all_goals omega
theorem sem0_le : ∀ k, k < 8 → ∀ f, f < 10 → ∀ a, a < 13 → sem0 k f a 0 ≤ 20 ∧ sem0 k f a 1 ≤ 20 := by decide +kernel
theorem sem0_par (k f a h : Nat) : sem0 k f a h = sem0 k f a (h % 2) := by
  unfold sem0
  rw [Nat.mod_mod]
section PURE1
variable {ρ : Rho} {a B : Nat} {r : Nat → Nat}
theorem mov_le (w h : Nat) : mov r w h ≤ 1 := by
  unfold mov
  split
  · exact mov0_le _ _ _ _
  · omega
theorem OKr.ap (ok : OKr r) {w h : Nat} (hw : w < r 0) (hh : h < 24) : apR r w h < 13 := (apt_lt _ (ok.2.2 w hw).2.2.2.1 _ hh).1
theorem OKr.shn (ok : OKr r) {w h : Nat} (hw : w < r 0) (hh : h < 24) : shn r w h ≤ 12 := by
  obtain ⟨g1, g2, g3, g4, g5⟩ := ok.2.2 w hw
  unfold Pilot.CBrickedUpAsBlindLaw_law_r5143_4a5f7e.shn
  split
  · exact shn0_le _ g1 _ g2 _ (ok.ap hw hh)
  · omega
theorem OKr.sem (ok : OKr r) {w h : Nat} (hw : w < r 0) (hh : h < 24) : usem r w h ≤ 20 := by
  obtain ⟨g1, g2, g3, g4, g5⟩ := ok.2.2 w hw
  unfold usem
  rw [sem0_par]
  have := sem0_le _ g1 _ g2 _ (ok.ap hw hh)
  rcases (show h % 2 = 0 ∨ h % 2 = 1 by omega) with e | e <;> rw [e]
  · exact this.1
  · exact this.2
end PURE1
