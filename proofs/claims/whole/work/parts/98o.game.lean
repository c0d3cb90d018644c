/-! PURE: the game of the assessor and the house. -/
def gF (L : Nat) (f : Nat → Nat) : Nat → Option (Nat × Nat)
  | 0 => none
  | i + 1 => if L / 2 ^ i % 2 = 0 then (match gF L f i with
    | none => some (f i, i)
    | some (m, j) => if m < f i then some (f i, i) else some (m, j)) else gF L f i
def gV (o : Option (Nat × Nat)) : Nat := match o with
  | none => 0
  | some (m, _) => m
def gM (s a0 : Nat) (g : Nat → Nat) : Nat → Nat
  | 0 => a0
  | w + 1 => if s / 2 ^ w % 2 = 0 then (if g w < gM s a0 g w then g w else gM s a0 g w) else gM s a0 g w
def gS (N : Nat) (A : Nat → Nat → Nat) (s L : Nat) : Nat := gM s (A s L) (fun w => A (s + 2 ^ w) L) N
def gA (r : Nat → Nat) : Nat → Nat → Nat → Nat
  | 0 => fun _ _ => 0
  | k + 1 => fun s L => gV (gF L (fun i => mvD (sdR r s) (6 * i) + gS (r 0) (gA r k) s (L + 2 ^ i)) 4)
theorem gV_le {L b : Nat} {f : Nat → Nat} (h : ∀ i, f i ≤ b) : ∀ n, gV (gF L f n) ≤ b := by
  intro n
  induction n with
  | zero => exact Nat.zero_le _
  | succ n ih =>
    rw [gF]
    by_cases c : L / 2 ^ n % 2 = 0
    · rw [if_pos c]
      cases e : gF L f n with
      | none => exact h n
      | some mj =>
        obtain ⟨m, j⟩ := mj
        rw [e] at ih
        show gV (if m < f n then _ else _) ≤ b
        by_cases c2 : m < f n
        · rw [if_pos c2]; exact h n
        · rw [if_neg c2]; exact ih
    · rw [if_neg c]; exact ih
theorem gM_le {s a0 b : Nat} {g : Nat → Nat} (h : a0 ≤ b) : ∀ n, gM s a0 g n ≤ b := by
  intro n
  induction n with
  | zero => exact h
  | succ n ih =>
    rw [gM]
    by_cases c : s / 2 ^ n % 2 = 0
    · rw [if_pos c]
      by_cases c2 : g n < gM s a0 g n
      · rw [if_pos c2]; omega
      · rw [if_neg c2]; exact ih
    · rw [if_neg c]; exact ih
theorem gA_le {r : Nat → Nat} (ok : OKr r) : ∀ k s L, gA r k s L ≤ 80 * k := by
  intro k
  induction k with
  | zero => exact fun _ _ => Nat.zero_le _
  | succ k ih =>
    intro s L
    refine gV_le (fun i => ?_) 4
    have a := mvD_le (ok.st s) (6 * i)
    have b : gS (r 0) (gA r k) s (L + 2 ^ i) ≤ 80 * k := gM_le (ih s _) _
    show mvD (sdR r s) (6 * i) + _ ≤ _
    omega
theorem gM_0 {s : Nat} {g : Nat → Nat} (h : ∀ w, g w = 0) : ∀ n, gM s 0 g n = 0 := by
  intro n
  exact Nat.le_zero.mp (gM_le (Nat.le_refl 0) n)
theorem gV_st {L i : Nat} {f : Nat → Nat} (c : L / 2 ^ i % 2 = 0) : gV (gF L f (i + 1)) = if gV (gF L f i) < f i then f i else gV (gF L f i) := by
  rw [gF, if_pos c]
  cases e : gF L f i with
  | none =>
    show f i = if 0 < f i then f i else 0
    by_cases c2 : 0 < f i
    · rw [if_pos c2]
    · rw [if_neg c2]; omega
  | some mj =>
    obtain ⟨m, j⟩ := mj
    show gV (if m < f i then _ else _) = if m < f i then f i else m
    by_cases c2 : m < f i
    · rw [if_pos c2, if_pos c2]; rfl
    · rw [if_neg c2, if_neg c2]; rfl
theorem gV_no {L i : Nat} {f : Nat → Nat} (c : ¬ L / 2 ^ i % 2 = 0) : gF L f (i + 1) = gF L f i := by
  rw [gF, if_neg c]
theorem bit_add : ∀ s, s < 256 → ∀ w, w < 8 → s / 2 ^ w % 2 = 0 → (nI s ||| (nI 1 <<< (nI w &&& nI 31)) = nI (s + 2 ^ w) ∧ s + 2 ^ w < 256 ∧ ∀ v, v < 8 → (s + 2 ^ w) / 2 ^ v % 2 = if v = w then 1 else s / 2 ^ v % 2) := by decide +kernel
theorem bc_add : ∀ s, s < 16 → ∀ w, w < 4 → s / 2 ^ w % 2 = 0 → (bc (s + 2 ^ w) = bc s + 1 ∧ s + 2 ^ w < 16) := by decide +kernel
theorem bc_fr : ∀ s, s < 16 → bc s ≤ 3 → ∃ w, w < 4 ∧ s / 2 ^ w % 2 = 0 := by decide +kernel
theorem bit_N {s w N : Nat} (hs : s < 2 ^ N) (hN : N ≤ 8) (hw : w < N) (c : s / 2 ^ w % 2 = 0) : s + 2 ^ w < 2 ^ N := by
  have key : ∀ N, N ≤ 8 → ∀ w, w < N → ∀ s, s < 2 ^ N → s / 2 ^ w % 2 = 0 → s + 2 ^ w < 2 ^ N := by decide +kernel
  exact key N hN w hw s hs c
theorem mov_sd (r : Nat → Nat) (s w h : Nat) : mov (sdR r s) w h = if s / 2 ^ w % 2 = 0 then mov0 (r (9 + 5 * w)) (r (9 + 5 * w + 1)) (apR r w h) h else 0 := by
  unfold mov apR
  rw [sdR_4, sdR_n _ _ (by omega), sdR_n _ _ (by omega), sdR_n _ _ (by omega)]
def Sup (B s N : Nat) : Prop := ∀ w, w < N → s / 2 ^ w % 2 = 0 → B / 2 ^ w % 2 = 0
theorem x_seen {ρ : Rho} {a B s h : Nat} {r : Nat → Nat} (F : HouseF ρ a r B) (bt : BitsR r B) (ok : OKr r) (hs : s < 256) (su : Sup B s (r 0)) (hh : h < 24) : fX5_seenAt ρ a (nI s) (nI h) = some (nI (mvD (sdR r s) h)) := by
  have h8 := ok.1.1
  have e0 : mvD (sdR r s) h = sumTo (r 0) (fun w => mov (sdR r s) w h * (r (9 + 5 * w + 1) + 1)) := by
    unfold mvD
    rw [sdR_n _ _ (by omega)]
    exact sumTo_congr (fun w hw => by rw [sdR_n _ _ (by omega)])
  have key : ∀ k n i, i + k = r 0 → k < n → fX5_seenAt_5 ρ n a (nI s) (nI h) (nI (sumTo i (fun w => mov (sdR r s) w h * (r (9 + 5 * w + 1) + 1)))) (nI i) = some (nI (mvD (sdR r s) h)) := by
    intro k
    induction k with
    | zero =>
      intro n i hi hn
      obtain ⟨n, rfl⟩ : ∃ p0, n = p0 + 1 := ⟨n - 1, by omega⟩
      obtain rfl : i = r 0 := by omega
      rw [fX5_seenAt_5, F.2.1.1, Option.bind_some, if_pos (nI_le (Nat.le_refl _) (by omega)), e0]
    | succ k ih =>
      intro n i hi hn
      obtain ⟨n, rfl⟩ : ∃ p0, n = p0 + 1 := ⟨n - 1, by omega⟩
      have hw : i < r 0 := by omega
      have e : fX5_seenAt_5 ρ n a (nI s) (nI h) (nI (sumTo i (fun w => mov (sdR r s) w h * (r (9 + 5 * w + 1) + 1)) + mov (sdR r s) i h * (r (9 + 5 * i + 1) + 1))) (nI (i + 1)) = _ := ih n (i + 1) (by omega) (by omega)
      rw [fX5_seenAt_5, F.2.1.1, Option.bind_some, if_neg (nI_ge hw (by omega)), fa_lit 31, fa_lit 1, bit_has s hs i (by omega)]
      rw [mov_sd] at e
      by_cases c : s / 2 ^ i % 2 = 0
      · have m1 : mov r i h = mov0 (r (9 + 5 * i)) (r (9 + 5 * i + 1)) (apR r i h) h := by
          unfold mov
          rw [bt.2 i hw, if_pos (su i hw c)]
        have m2 := mov0_le (r (9 + 5 * i)) (r (9 + 5 * i + 1)) (apR r i h) h
        rw [if_pos c] at e
        rw [c, if_pos (show nI 0 = 0 from rfl), F.1.1, Option.bind_some, x_isMoving F bt ok hw hh, Option.bind_some, m1]
        rcases (show mov0 (r (9 + 5 * i)) (r (9 + 5 * i + 1)) (apR r i h) h = 0 ∨ mov0 (r (9 + 5 * i)) (r (9 + 5 * i + 1)) (apR r i h) h = 1 by omega) with q | q
        · rw [q, Nat.zero_mul] at e
          rw [q, if_pos (show nI 0 = 0 from rfl), fX5_seenAt_45, nI_1]
          exact e
        · rw [q, Nat.one_mul] at e
          rw [q, if_neg n10, F.1.2.2.1, Option.bind_some, (F.2.2.1 i hw).2.1, Option.bind_some, fX5_seenAt_45, nI_add, nI_add, nI_1]
          exact e
      · rw [if_neg c, Nat.zero_mul] at e
        rw [show s / 2 ^ i % 2 = 1 by omega, if_neg n10, fX5_seenAt_45, nI_1]
        exact e
  exact key (r 0) FU 0 (by omega) (FU_gt (by omega))
theorem Sup.add {B s N w : Nat} (h : Sup B s N) (hs : s < 256) (hN : N ≤ 8) (hw : w < N) (c : s / 2 ^ w % 2 = 0) : Sup B (s + 2 ^ w) N := by
  intro v hv q
  rw [(bit_add s hs w (by omega) c).2.2 v (by omega)] at q
  by_cases e : v = w
  · rw [if_pos e] at q; omega
  · rw [if_neg e] at q; exact h v hv q
section
variable {ρ : Rho} {a B : Nat} {r : Nat → Nat}
def gTerm (r : Nat → Nat) (k s L i : Nat) : Nat := mvD (sdR r s) (6 * i) + gS (r 0) (gA r k) s (L + 2 ^ i)
theorem gT_le (ok : OKr r) (k s L i : Nat) : gTerm r k s L i ≤ 80 * (k + 1) := by
  have a := mvD_le (ok.st s) (6 * i)
  have b : gS (r 0) (gA r k) s (L + 2 ^ i) ≤ 80 * k := gM_le (gA_le ok k s _) _
  unfold gTerm
  omega
theorem x_gainedBy (F : HouseF ρ a r B) (bt : BitsR r B) (ok : OKr r) {k d s L i : Nat} (ih : ∀ s L, s < 2 ^ r 0 → Sup B s (r 0) → L < 16 → fX5_gained_d d ρ a (nI L) (nI s) (nI k) = some (nI (gA r k s L))) (hk : k ≤ 3) (hs : s < 2 ^ r 0) (su : Sup B s (r 0)) (hL : L < 16) (hi : i < 4) (c : L / 2 ^ i % 2 = 0) : FX5_gainedBy ρ (fX5_gained_d d) a (nI L) (nI s) (nI (k + 1)) (nI i) = some (nI (gTerm r k s L i)) := by
  have h8 := ok.1.1
  have hp : 2 ^ r 0 ≤ 256 := Nat.pow_le_pow_right (by omega) h8
  have l16 := (bc_add L hL i hi c).2
  have hg := gA_le ok k
  rw [FX5_gainedBy, show nI i * 6 = nI (i * 6) from pk_mul i 6, show i * 6 = 6 * i by omega, x_seen F bt ok (by omega) su (by omega), Option.bind_some]
  rcases (show k = 0 ∨ 0 < k by omega) with c0 | c0
  · subst c0
    rw [if_neg (show ¬ (1 : Int32) < nI (0 + 1) by decide)]
    unfold gTerm gS
    rw [show gM s (gA r 0 s (L + 2 ^ i)) (fun w => gA r 0 (s + 2 ^ w) (L + 2 ^ i)) (r 0) = 0 from gM_0 (fun _ => rfl) _]
    rfl
  · rw [if_pos (show (1 : Int32) < nI (k + 1) from nI_lt (a := 1) (by omega) (by omega)), show nI (k + 1) - 1 = nI k from pk_sub (a := k + 1) (b := 1) (by omega), fa_lit 31, fa_lit 1, (bit_add L (by omega) i (by omega) c).1, ih s _ hs su l16, Option.bind_some]
    have key : ∀ j n w, w + j = r 0 → j < n → FX5_gainedBy_43 ρ (fX5_gained_d d) n a (nI s) (nI (k + 1)) (nI (mvD (sdR r s) (6 * i))) (nI (L + 2 ^ i)) (nI (gM s (gA r k s (L + 2 ^ i)) (fun w => gA r k (s + 2 ^ w) (L + 2 ^ i)) w)) (nI w) = some (nI (gTerm r k s L i)) := by
      intro j
      induction j with
      | zero =>
        intro n w hw hn
        obtain ⟨n, rfl⟩ : ∃ p0, n = p0 + 1 := ⟨n - 1, by omega⟩
        obtain rfl : w = r 0 := by omega
        rw [FX5_gainedBy_43, F.2.1.1, Option.bind_some, if_pos (nI_le (Nat.le_refl _) (by omega)), nI_add]
        rfl
      | succ j jh =>
        intro n w hw hn
        obtain ⟨n, rfl⟩ : ∃ p0, n = p0 + 1 := ⟨n - 1, by omega⟩
        have hlt : w < r 0 := by omega
        have e := jh n (w + 1) (by omega) (by omega)
        rw [FX5_gainedBy_43, F.2.1.1, Option.bind_some, if_neg (nI_ge hlt (by omega)), fa_lit 31, fa_lit 1, bit_has s (by omega) w (by omega)]
        rw [gM] at e
        by_cases cs : s / 2 ^ w % 2 = 0
        · rw [if_pos cs] at e
          obtain ⟨b1, b2, b3⟩ := bit_add s (by omega) w (by omega) cs
          have g1 := hg (s + 2 ^ w) (L + 2 ^ i)
          have g2 : gM s (gA r k s (L + 2 ^ i)) (fun w => gA r k (s + 2 ^ w) (L + 2 ^ i)) w ≤ 80 * k := gM_le (hg s _) _
          rw [cs, if_pos (show nI 0 = 0 from rfl), b1, show nI (k + 1) - nI 1 = nI k from pk_sub (a := k + 1) (b := 1) (by omega), ih _ _ (bit_N hs h8 hlt cs) (su.add (by omega) h8 hlt cs) l16, Option.bind_some, FX5_gainedBy_83, nI_1]
          by_cases q : gA r k (s + 2 ^ w) (L + 2 ^ i) < gM s (gA r k s (L + 2 ^ i)) (fun w => gA r k (s + 2 ^ w) (L + 2 ^ i)) w
          · rw [if_pos q] at e
            rw [if_pos (nI_lt q (by omega))]
            exact e
          · rw [if_neg q] at e
            rw [if_neg (show ¬ nI _ < nI _ from fun h => q ((nI_ltI (by omega) (by omega)).mp h))]
            exact e
        · rw [if_neg cs] at e
          rw [show s / 2 ^ w % 2 = 1 by omega, if_neg n10, FX5_gainedBy_83, nI_1]
          exact e
    exact key (r 0) FU 0 (by omega) (FU_gt (by omega))
theorem g_d (d : Nat) (ρ : Rho) (v0 : Nat) (v1 v2 v3 : Int32) : fX5_gained_d (d + 1) ρ v0 v1 v2 v3 = FX5_gained ρ (fun ρ w0 w1 w2 w3 w4 => FX5_gainedBy ρ (fX5_gained_d d) w0 w1 w2 w3 w4) v0 v1 v2 v3 := rfl
theorem x_gained (F : HouseF ρ a r B) (bt : BitsR r B) (ok : OKr r) : ∀ k d s L, k ≤ 4 → k < d → s < 2 ^ r 0 → Sup B s (r 0) → L < 16 → fX5_gained_d d ρ a (nI L) (nI s) (nI k) = some (nI (gA r k s L)) := by
  intro k
  induction k with
  | zero =>
    intro d s L hk hd hs su hL
    obtain ⟨d, rfl⟩ : ∃ p0, d = p0 + 1 := ⟨d - 1, by omega⟩
    rw [g_d, FX5_gained, if_neg (show ¬ (0 : Int32) < nI 0 by decide)]
    rfl
  | succ k ih =>
    intro d s L hk hd hs su hL
    obtain ⟨d, rfl⟩ : ∃ p0, d = p0 + 1 := ⟨d - 1, by omega⟩
    rw [g_d, FX5_gained, if_pos (show (0 : Int32) < nI (k + 1) from nI_lt (a := 0) (by omega) (by omega))]
    have key : ∀ j n i, i + j = 4 → j < n → FX5_gained_13 ρ (fun ρ w0 w1 w2 w3 w4 => FX5_gainedBy ρ (fX5_gained_d d) w0 w1 w2 w3 w4) n a (nI L) (nI s) (nI (k + 1)) (nI (gV (gF L (gTerm r k s L) i))) (nI i) = some (nI (gV (gF L (gTerm r k s L) 4))) := by
      intro j
      induction j with
      | zero =>
        intro n i hi hn
        obtain ⟨n, rfl⟩ : ∃ p0, n = p0 + 1 := ⟨n - 1, by omega⟩
        obtain rfl : i = 4 := by omega
        rw [FX5_gained_13, if_pos (show (4 : Int32) ≤ nI 4 by decide)]
      | succ j jh =>
        intro n i hi hn
        obtain ⟨n, rfl⟩ : ∃ p0, n = p0 + 1 := ⟨n - 1, by omega⟩
        have e := jh n (i + 1) (by omega) (by omega)
        rw [FX5_gained_13, if_neg (show ¬ (4 : Int32) ≤ nI i from nI_ge (b := 4) (by omega) (by omega)), fa_lit 31, fa_lit 1, bit_has L (by omega) i (by omega)]
        by_cases c : L / 2 ^ i % 2 = 0
        · rw [gV_st c] at e
          have t1 := gT_le ok k s L i
          have t2 : gV (gF L (gTerm r k s L) i) ≤ 80 * (k + 1) := gV_le (fun i => gT_le ok k s L i) i
          rw [c, if_pos (show nI 0 = 0 from rfl), x_gainedBy F bt ok (fun s L hs su hL => ih d s L (by omega) (by omega) hs su hL) (by omega) hs su hL (by omega) c, Option.bind_some, FX5_gained_44, nI_1]
          by_cases q : gV (gF L (gTerm r k s L) i) < gTerm r k s L i
          · rw [if_pos q] at e
            rw [if_pos (nI_lt q (by omega))]
            exact e
          · rw [if_neg q] at e
            rw [if_neg (show ¬ nI _ < nI _ from fun h => q ((nI_ltI (by omega) (by omega)).mp h))]
            exact e
        · rw [gV_no c] at e
          rw [show L / 2 ^ i % 2 = 1 by omega, if_neg n10, FX5_gained_44, nI_1]
          exact e
    exact key 4 FU 0 (by omega) (FU_gt (by omega))
def gI4 (o : Option (Nat × Nat)) : Int32 := match o with
  | none => -4
  | some (_, j) => nI (6 * j)
def gV1 (o : Option (Nat × Nat)) : Int32 := match o with
  | none => -1
  | some (m, _) => nI m
theorem x_firstHour (F : HouseF ρ a r B) (bt : BitsR r B) (ok : OKr r) {k : Nat} (hk : k ≤ 3) : fX5_firstHour ρ a (nI (k + 1)) = some (gI4 (gF 0 (gTerm r k B 0) 4)) := by
  have hB := bt.1
  have su : Sup B B (r 0) := fun _ _ h => h
  have gb : ∀ i, i < 4 → fX5_gainedBy ρ a 0 (nI B) (nI (k + 1)) (nI i) = some (nI (gTerm r k B 0 i)) := fun i hi => x_gainedBy (d := 6) (L := 0) F bt ok (fun s L hs su hL => x_gained F bt ok k 6 s L (by omega) (by omega) hs su hL) hk hB su (by omega) hi (by rw [Nat.zero_div])
  have tb : ∀ i, gTerm r k B 0 i ≤ 320 := fun i => Nat.le_trans (gT_le ok k B 0 i) (by omega)
  unfold fX5_firstHour
  rw [if_pos (show (0 : Int32) < nI (k + 1) from nI_lt (a := 0) (by omega) (by omega)), F.2.1.2.1, Option.bind_some, show fX5_gainedBy ρ a 0 (nI B) (nI (k + 1)) 0 = _ from gb 0 (by omega), Option.bind_some]
  have key : ∀ j n i m h0, i + j = 4 → j < n → 0 < i → m ≤ 320 → gF 0 (gTerm r k B 0) i = some (m, h0) → fX5_firstHour_24 ρ n a (nI (k + 1)) (nI h0) (nI m) (nI i) = some (gI4 (gF 0 (gTerm r k B 0) 4)) := by
    intro j
    induction j with
    | zero =>
      intro n i m h0 hi hn h1 hm e
      obtain ⟨n, rfl⟩ : ∃ p0, n = p0 + 1 := ⟨n - 1, by omega⟩
      obtain rfl : i = 4 := by omega
      rw [fX5_firstHour_24, if_pos (show (4 : Int32) ≤ nI 4 by decide), e, show nI h0 * 6 = nI (h0 * 6) from pk_mul h0 6, Nat.mul_comm]
      rfl
    | succ j jh =>
      intro n i m h0 hi hn h1 hm e
      obtain ⟨n, rfl⟩ : ∃ p0, n = p0 + 1 := ⟨n - 1, by omega⟩
      have t1 := tb i
      rw [fX5_firstHour_24, if_neg (show ¬ (4 : Int32) ≤ nI i from nI_ge (b := 4) (by omega) (by omega)), F.2.1.2.1, Option.bind_some, gb i (by omega), Option.bind_some, fX5_firstHour_56, fX5_firstHour_56, nI_1]
      have g : gF 0 (gTerm r k B 0) (i + 1) = if m < gTerm r k B 0 i then some (gTerm r k B 0 i, i) else some (m, h0) := by
        rw [gF, if_pos (by rw [Nat.zero_div]), e]
      by_cases q : gTerm r k B 0 i ≤ m
      · rw [if_neg (show ¬ m < gTerm r k B 0 i by omega)] at g
        rw [if_pos (nI_le q (by omega))]
        exact jh n (i + 1) m h0 (by omega) (by omega) (by omega) hm g
      · rw [if_pos (show m < gTerm r k B 0 i by omega)] at g
        rw [if_neg (nI_ge (show m < gTerm r k B 0 i by omega) (by omega))]
        exact jh n (i + 1) _ i (by omega) (by omega) (by omega) t1 g
  refine key 3 FU 1 _ 0 (by omega) (FU_gt (by omega)) (by omega) (tb 0) ?_
  rw [gF, if_pos (by rw [Nat.zero_div]), gF]
end
