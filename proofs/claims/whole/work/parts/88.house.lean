/-! PURE: a house of the class, what its reading methods answer. -/
theorem rng (v : Int32) {lo hi : Nat} (hh : hi < 2 ^ 31) (hl : lo ≤ hi) : v < nI lo ∨ nI hi < v ∨ ∃ j, lo ≤ j ∧ j ≤ hi ∧ v = nI j := by
  have h1 := nI_toInt (n := lo) (by omega)
  have h2 := nI_toInt hh
  by_cases c1 : v < nI lo
  · exact Or.inl c1
  · by_cases c2 : nI hi < v
    · exact Or.inr (Or.inl c2)
    · rw [Int32.lt_iff_toInt_lt, h1] at c1
      rw [Int32.lt_iff_toInt_lt, h2] at c2
      refine Or.inr (Or.inr ⟨v.toInt.toNat, by omega, by omega, ?_⟩)
      apply Int32.toInt_inj.mp
      rw [nI_toInt (by omega)]
      omega
theorem rng0 (v : Int32) {n : Nat} (hn : n < 2 ^ 31) : v < nI 0 ∨ nI n ≤ v ∨ ∃ j, j < n ∧ v = nI j := pk_ix v hn
theorem x_within_in (ρ : Rho) {j lo hi : Nat} (h1 : lo ≤ j) (h2 : j ≤ hi) (hh : hi < 2 ^ 31) : fX0_isWithin ρ (nI j) (nI lo) (nI hi) = some (nI 1) := by
  unfold fX0_isWithin
  rw [if_neg (nI_nlt h1 (by omega)), if_neg (nI_nlt h2 hh)]
  rfl
theorem x_within_out (ρ : Rho) {v : Int32} {lo hi : Int32} (h : v < lo ∨ hi < v) : fX0_isWithin ρ v lo hi = some (nI 0) := by
  unfold fX0_isWithin
  by_cases c : v < lo
  · rw [if_pos c]; rfl
  · rw [if_neg c, if_pos (h.resolve_left c)]; rfl
theorem x_room_in (ρ : Rho) {j : Nat} (h : j < 4) : fX0_isRoom ρ (nI j) = some (nI 1) := by
  unfold fX0_isRoom
  rw [show (0 : Int32) = nI 0 from rfl, show (3 : Int32) = nI 3 from rfl, x_within_in ρ (by omega) (by omega) (by omega)]
  rfl
theorem x_room_out (ρ : Rho) {v : Int32} (h : v < nI 0 ∨ nI 3 < v) : fX0_isRoom ρ v = some (nI 0) := by
  unfold fX0_isRoom
  rw [show (0 : Int32) = nI 0 from rfl, show (3 : Int32) = nI 3 from rfl, x_within_out ρ h]
  rfl
theorem x_hour_in (ρ : Rho) {j : Nat} (h : j < 24) : fX0_isHour ρ (nI j) = some (nI 1) := by
  unfold fX0_isHour
  rw [show (0 : Int32) = nI 0 from rfl, show (23 : Int32) = nI 23 from rfl, x_within_in ρ (by omega) (by omega) (by omega)]
  rfl
theorem x_hour_out (ρ : Rho) {v : Int32} (h : v < nI 0 ∨ nI 23 < v) : fX0_isHour ρ v = some (nI 0) := by
  unfold fX0_isHour
  rw [show (0 : Int32) = nI 0 from rfl, show (23 : Int32) = nI 23 from rfl, x_within_out ρ h]
  rfl
theorem x_pay_in (ρ : Rho) {j : Nat} (h : j ≤ 999) : fX0_isPayment ρ (nI j) = some (nI 1) := by
  unfold fX0_isPayment
  rw [show (0 : Int32) = nI 0 from rfl, show (999 : Int32) = nI 999 from rfl, x_within_in ρ (by omega) (by omega) (by omega)]
  rfl
theorem x_pay_out (ρ : Rho) {v : Int32} (h : v < nI 0 ∨ nI 999 < v) : fX0_isPayment ρ v = some (nI 0) := by
  unfold fX0_isPayment
  rw [show (0 : Int32) = nI 0 from rfl, show (999 : Int32) = nI 999 from rfl, x_within_out ρ h]
  rfl
section HX
variable {ρ : Rho} {a B : Nat} {r : Nat → Nat}
theorem x_win_in (F : HouseF ρ a r B) (ok : OKr r) {w : Nat} (hw : w < r 0) : fX0_isWindow ρ a (nI w) = some (nI 1) := by
  have h8 := ok.1.1
  unfold fX0_isWindow
  rw [if_neg (nI_pos (by omega)), F.2.1.1, Option.bind_some, if_neg (nI_ge hw (by omega))]
  rfl
theorem x_win_out (F : HouseF ρ a r B) {v : Int32} (h : v < nI 0 ∨ nI (r 0) ≤ v) : fX0_isWindow ρ a v = some (nI 0) := by
  unfold fX0_isWindow
  by_cases c : v < 0
  · rw [if_pos c]; rfl
  · rw [if_neg c, F.2.1.1, Option.bind_some, if_pos (h.resolve_left c)]; rfl
theorem x_isStopped (F : HouseF ρ a r B) (bt : BitsR r B) (ok : OKr r) {w : Nat} (hw : w < r 0) : fX0_isStopped ρ a (nI w) = some (nI (r (9 + 5 * w + 4))) := by
  have h8 := ok.1.1
  have h1 := (ok.2.2 w hw).2.2.2.2
  unfold fX0_isStopped
  rw [F.2.1.2.1, Option.bind_some, bit_get B (bt.lt h8) w (by omega), ← bt.2 w hw]
  generalize r (9 + 5 * w + 4) = t at h1
  rcases (show t = 0 ∨ t = 1 by omega) with rfl | rfl <;> rfl
theorem x_shineOf (F : HouseF ρ a r B) (bt : BitsR r B) (ok : OKr r) {w h : Nat} (hw : w < r 0) (hh : h < 24) : fX0_shineOf ρ a (nI w) (nI h) = some (nI (shn r w h)) := by
  obtain ⟨g1, g2, g3, g4, g5⟩ := ok.2.2 w hw
  obtain ⟨k1, k2, k3, k4⟩ := F.2.2.1 w hw
  unfold fX0_shineOf shn
  rw [F.1.1, Option.bind_some, x_isStopped F bt ok hw, Option.bind_some]
  by_cases c : r (9 + 5 * w + 4) = 0
  · rw [c, if_pos (show nI 0 = 0 from rfl), if_pos rfl, F.1.2.1, Option.bind_some, k1, Option.bind_some, F.1.2.2.1, Option.bind_some, k2, Option.bind_some, F.1.2.2.2.2.1, Option.bind_some, k4, Option.bind_some]
    rw [show fX1_apart ρ = fX1_apart ρN from rfl, lX_apart _ g4 _ hh, Option.bind_some, show fX1_shine ρ = fX1_shine ρN from rfl, lX_shine _ g1 _ g2 _ (apt_lt _ g4 _ hh).1]
    rfl
  · rw [if_neg c, if_neg (nI_ne0 (by omega) (by omega))]
    rfl
theorem x_isMoving (F : HouseF ρ a r B) (bt : BitsR r B) (ok : OKr r) {w h : Nat} (hw : w < r 0) (hh : h < 24) : fX0_isMoving ρ a (nI w) (nI h) = some (nI (mov r w h)) := by
  obtain ⟨g1, g2, g3, g4, g5⟩ := ok.2.2 w hw
  obtain ⟨k1, k2, k3, k4⟩ := F.2.2.1 w hw
  unfold fX0_isMoving mov
  rw [F.1.1, Option.bind_some, x_isStopped F bt ok hw, Option.bind_some]
  by_cases c : r (9 + 5 * w + 4) = 0
  · rw [c, if_pos (show nI 0 = 0 from rfl), if_pos rfl, F.1.2.1, Option.bind_some, k1, Option.bind_some, F.1.2.2.1, Option.bind_some, k2, Option.bind_some, F.1.2.2.2.2.1, Option.bind_some, k4, Option.bind_some]
    rw [show fX1_apart ρ = fX1_apart ρN from rfl, lX_apart _ g4 _ hh, Option.bind_some, show fX1_moves ρ = fX1_moves ρN from rfl, lX_moves _ g1 _ g2 _ (apt_lt _ g4 _ hh).1 _ hh, Option.bind_some]
    have h1 := mov0_le (r (9 + 5 * w)) (r (9 + 5 * w + 1)) (apR r w h) h
    show (if nI (mov0 (r (9 + 5 * w)) (r (9 + 5 * w + 1)) (apR r w h) h) = 0 then nb 0 else nb 1) = _
    generalize mov0 (r (9 + 5 * w)) (r (9 + 5 * w + 1)) (apR r w h) h = t at h1
    rcases (show t = 0 ∨ t = 1 by omega) with rfl | rfl <;> rfl
  · rw [if_neg c, if_neg (nI_ne0 (by omega) (by omega))]
    rfl
theorem x_unstopped (F : HouseF ρ a r B) (ok : OKr r) {w h : Nat} (hw : w < r 0) (hh : h < 24) : fX0_unstoppedSeeming ρ a (nI w) (nI h) = some (nI (usem r w h)) := by
  obtain ⟨g1, g2, g3, g4, g5⟩ := ok.2.2 w hw
  obtain ⟨k1, k2, k3, k4⟩ := F.2.2.1 w hw
  unfold fX0_unstoppedSeeming usem
  rw [F.1.2.1, Option.bind_some, k1, Option.bind_some, F.1.2.2.1, Option.bind_some, k2, Option.bind_some, F.1.2.2.2.2.1, Option.bind_some, k4, Option.bind_some]
  rw [show fX1_apart ρ = fX1_apart ρN from rfl, lX_apart _ g4 _ hh, Option.bind_some, show fX1_seeming ρ = fX1_seeming ρN from rfl, lX_seeming _ g1 _ g2 _ (apt_lt _ g4 _ hh).1 _ hh]
  rfl
theorem x_seemingOf (F : HouseF ρ a r B) (bt : BitsR r B) (ok : OKr r) {w h : Nat} (hw : w < r 0) (hh : h < 24) : fX0_seemingOf ρ a (nI w) (nI h) = some (nI (sem r w h)) := by
  obtain ⟨g1, g2, g3, g4, g5⟩ := ok.2.2 w hw
  unfold fX0_seemingOf sem
  rw [F.1.1, Option.bind_some, x_isStopped F bt ok hw, Option.bind_some]
  by_cases c : r (9 + 5 * w + 4) = 0
  · rw [c, if_pos (show nI 0 = 0 from rfl), if_pos rfl, Option.bind_some, x_unstopped F ok hw hh]
    rfl
  · rw [if_neg c, if_neg (nI_ne0 (by omega) (by omega))]
    rfl
theorem x_roomLight (F : HouseF ρ a r B) (bt : BitsR r B) (ok : OKr r) {room h : Nat} (hr : room < 4) (hh : h < 24) : fX0_roomLight ρ a (nI room) (nI h) = some (nI (lit r room h)) := by
  have h8 := ok.1.1
  have key : ∀ k n i, i + k = r 0 → k < n → fX0_roomLight_5 ρ n a (nI room) (nI h) (nI (sumTo i (fun w => if r (9 + 5 * w + 2) = room then shn r w h else 0))) (nI i) = some (nI (lit r room h)) := by
    intro k
    induction k with
    | zero =>
      intro n i hi hn
      obtain ⟨n, rfl⟩ : ∃ m, n = m + 1 := ⟨n - 1, by omega⟩
      obtain rfl : i = r 0 := by omega
      rw [fX0_roomLight_5, F.2.1.1, Option.bind_some, if_pos (nI_le (Nat.le_refl _) (by omega))]
      rfl
    | succ k ih =>
      intro n i hi hn
      obtain ⟨n, rfl⟩ : ∃ m, n = m + 1 := ⟨n - 1, by omega⟩
      have hw : i < r 0 := by omega
      obtain ⟨g1, g2, g3, g4, g5⟩ := ok.2.2 i hw
      rw [fX0_roomLight_5, F.2.1.1, Option.bind_some, if_neg (nI_ge hw (by omega)), F.1.2.2.2.1, Option.bind_some, (F.2.2.1 i hw).2.2.1, Option.bind_some]
      have e := ih n (i + 1) (by omega) (by omega)
      by_cases c : r (9 + 5 * i + 2) = room
      · rw [if_pos (by rw [c]), F.1.1, Option.bind_some, x_shineOf F bt ok hw hh, Option.bind_some, fX0_roomLight_35, nI_add, nI_1]
        have e2 : sumTo (i + 1) (fun w => if r (9 + 5 * w + 2) = room then shn r w h else 0) = sumTo i (fun w => if r (9 + 5 * w + 2) = room then shn r w h else 0) + shn r i h := by
          show _ + (if r (9 + 5 * i + 2) = room then shn r i h else 0) = _
          rw [if_pos c]
        rw [e2] at e
        exact e
      · rw [if_neg (fun q => c ((nI_eq (by omega) (by omega)).mp q)), fX0_roomLight_35, nI_1]
        have e2 : sumTo (i + 1) (fun w => if r (9 + 5 * w + 2) = room then shn r w h else 0) = sumTo i (fun w => if r (9 + 5 * w + 2) = room then shn r w h else 0) := by
          show _ + (if r (9 + 5 * i + 2) = room then shn r i h else 0) = _
          rw [if_neg c]
          rfl
        rw [e2] at e
        exact e
  exact key (r 0) FU 0 (by omega) (FU_gt (by omega))
theorem x_wholeLight (F : HouseF ρ a r B) (bt : BitsR r B) (ok : OKr r) {h : Nat} (hh : h < 24) : fX0_wholeLight ρ a (nI h) = some (nI (alit r h)) := by
  have h8 := ok.1.1
  have key : ∀ k n i, i + k = r 0 → k < n → fX0_wholeLight_4 ρ n a (nI h) (nI (sumTo i (fun w => shn r w h))) (nI i) = some (nI (alit r h)) := by
    intro k
    induction k with
    | zero =>
      intro n i hi hn
      obtain ⟨n, rfl⟩ : ∃ m, n = m + 1 := ⟨n - 1, by omega⟩
      obtain rfl : i = r 0 := by omega
      rw [fX0_wholeLight_4, F.2.1.1, Option.bind_some, if_pos (nI_le (Nat.le_refl _) (by omega))]
      rfl
    | succ k ih =>
      intro n i hi hn
      obtain ⟨n, rfl⟩ : ∃ m, n = m + 1 := ⟨n - 1, by omega⟩
      have hw : i < r 0 := by omega
      rw [fX0_wholeLight_4, F.2.1.1, Option.bind_some, if_neg (nI_ge hw (by omega)), F.1.1, Option.bind_some, x_shineOf F bt ok hw hh, Option.bind_some, nI_add, nI_1]
      exact ih n (i + 1) (by omega) (by omega)
  exact key (r 0) FU 0 (by omega) (FU_gt (by omega))
theorem x_allNeeds (F : HouseF ρ a r B) : fX0_allNeeds ρ a = some (nI (sumTo 4 (fun i => r (5 + i)))) := by
  have key : ∀ k n i, i + k = 4 → k < n → fX0_allNeeds_4 ρ n a (nI (sumTo i (fun i => r (5 + i)))) (nI i) = some (nI (sumTo 4 (fun i => r (5 + i)))) := by
    intro k
    induction k with
    | zero =>
      intro n i hi hn
      obtain ⟨n, rfl⟩ : ∃ m, n = m + 1 := ⟨n - 1, by omega⟩
      obtain rfl : i = 4 := by omega
      rw [fX0_allNeeds_4, if_pos (show (4 : Int32) ≤ nI 4 from nI_le (a := 4) (Nat.le_refl _) (by omega))]
    | succ k ih =>
      intro n i hi hn
      obtain ⟨n, rfl⟩ : ∃ m, n = m + 1 := ⟨n - 1, by omega⟩
      rw [fX0_allNeeds_4, if_neg (show ¬ (4 : Int32) ≤ nI i from nI_ge (b := 4) (show i < 4 by omega) (by omega)), F.1.2.2.2.2.2, Option.bind_some, F.2.2.2 i (by omega), Option.bind_some, nI_add, nI_1]
      exact ih n (i + 1) (by omega) (by omega)
  exact key 4 FU 0 (by omega) (FU_gt (by omega))
theorem lit_le (ok : OKr r) {room h : Nat} (hh : h < 24) : lit r room h ≤ 96 := by
  have h8 := ok.1.1
  have := sumTo_le (n := r 0) (b := 12) (f := fun w => if r (9 + 5 * w + 2) = room then shn r w h else 0) (fun i hi => by
    show (if _ then _ else _) ≤ 12
    split
    · exact ok.shn hi hh
    · omega)
  unfold lit
  omega
theorem alit_le (ok : OKr r) {h : Nat} (hh : h < 24) : alit r h ≤ 96 := by
  have h8 := ok.1.1
  have := sumTo_le (n := r 0) (b := 12) (f := fun w => shn r w h) (fun i hi => ok.shn hi hh)
  unfold alit
  omega
theorem x_lackOf (F : HouseF ρ a r B) (bt : BitsR r B) (ok : OKr r) {room h : Nat} (hr : room < 4) (hh : h < 24) : fX0_lackOf ρ a (nI room) (nI h) = some (nI (lck r room h)) := by
  have h2 := ok.2.1 room hr
  have h3 := lit_le ok (room := room) hh
  unfold fX0_lackOf lck
  rw [F.1.2.2.2.2.2, Option.bind_some, F.2.2.2 room hr, Option.bind_some]
  by_cases c : r (5 + room) = 0
  · rw [c, if_pos (show nI 0 = 0 from rfl), Nat.zero_sub]
    rfl
  · rw [if_neg (nI_ne0 (by omega) (by omega)), Option.bind_some, F.2.2.2 room hr, Option.bind_some, F.1.1, Option.bind_some, x_roomLight F bt ok hr hh, Option.bind_some]
    exact congrArg some (nI_maxsub (by omega) (by omega))
theorem x_isAnyLacking (F : HouseF ρ a r B) (bt : BitsR r B) (ok : OKr r) {h : Nat} (hh : h < 24) : fX0_isAnyLacking ρ a (nI h) = some (nI (drk r h)) := by
  have hk : ∀ room, room < 4 → lck r room h ≤ 20 := fun room hr => by
    have := ok.2.1 room hr
    unfold lck
    omega
  have step : ∀ n i, i < 4 → fX0_isAnyLacking_2 ρ (n + 1) a (nI h) (nI i) = if lck r i h = 0 then fX0_isAnyLacking_2 ρ n a (nI h) (nI (i + 1)) else some (nI 1) := fun n i hi => by
    have h2 := hk i hi
    rw [fX0_isAnyLacking_2, if_neg (show ¬ (4 : Int32) ≤ nI i from nI_ge (b := 4) hi (by omega)), F.1.1, Option.bind_some, x_lackOf F bt ok hi hh, Option.bind_some, nI_1]
    by_cases c : lck r i h = 0
    · rw [if_pos c, if_pos (by rw [c]; decide)]
    · rw [if_neg c, if_neg (nI_nle (by omega) (by omega))]
      rfl
  have e4 : ∀ n, fX0_isAnyLacking_2 ρ (n + 1) a (nI h) (nI 4) = some (nI 0) := fun n => by
    rw [fX0_isAnyLacking_2, if_pos (show (4 : Int32) ≤ nI 4 from nI_le (a := 4) (Nat.le_refl _) (by omega))]
    rfl
  unfold fX0_isAnyLacking drk
  rw [show FU = 99995 + 1 + 1 + 1 + 1 + 1 from rfl, show (0 : Int32) = nI 0 from rfl, step _ 0 (by omega), step _ 1 (by omega), step _ 2 (by omega), step _ 3 (by omega), e4]
  by_cases c0 : lck r 0 h = 0
  · by_cases c1 : lck r 1 h = 0
    · by_cases c2 : lck r 2 h = 0
      · by_cases c3 : lck r 3 h = 0
        · simp [c0, c1, c2, c3]
        · simp [c0, c1, c2, c3]
      · simp [c0, c1, c2]
    · simp [c0, c1]
  · simp [c0]
theorem x_openDues (F : HouseF ρ a r B) (bt : BitsR r B) (ok : OKr r) : fX0_openDues ρ a = some (nI (dus r)) := by
  have h8 := ok.1.1
  have key : ∀ k n i, i + k = r 0 → k < n → fX0_openDues_4 ρ n a (nI (sumTo i (fun w => if r (9 + 5 * w + 4) = 0 then due0 (r (9 + 5 * w)) (r (9 + 5 * w + 1)) else 0))) (nI i) = some (nI (dus r)) := by
    intro k
    induction k with
    | zero =>
      intro n i hi hn
      obtain ⟨n, rfl⟩ : ∃ m, n = m + 1 := ⟨n - 1, by omega⟩
      obtain rfl : i = r 0 := by omega
      rw [fX0_openDues_4, F.2.1.1, Option.bind_some, if_pos (nI_le (Nat.le_refl _) (by omega)), F.2.1.2.2.2.2.2, Option.bind_some, pk_mul]
      rfl
    | succ k ih =>
      intro n i hi hn
      obtain ⟨n, rfl⟩ : ∃ m, n = m + 1 := ⟨n - 1, by omega⟩
      have hw : i < r 0 := by omega
      obtain ⟨g1, g2, g3, g4, g5⟩ := ok.2.2 i hw
      obtain ⟨k1, k2, k3, k4⟩ := F.2.2.1 i hw
      rw [fX0_openDues_4, F.2.1.1, Option.bind_some, if_neg (nI_ge hw (by omega)), F.1.1, Option.bind_some, x_isStopped F bt ok hw, Option.bind_some]
      have e := ih n (i + 1) (by omega) (by omega)
      by_cases c : r (9 + 5 * i + 4) = 0
      · rw [c, if_pos (show nI 0 = 0 from rfl), F.1.2.1, Option.bind_some, k1, Option.bind_some, F.1.2.2.1, Option.bind_some, k2, Option.bind_some, show fX1_due ρ = fX1_due ρN from rfl, lX_due _ g1 _ g2, Option.bind_some, fX0_openDues_38, nI_add, nI_1]
        have e2 : sumTo (i + 1) (fun w => if r (9 + 5 * w + 4) = 0 then due0 (r (9 + 5 * w)) (r (9 + 5 * w + 1)) else 0) = sumTo i (fun w => if r (9 + 5 * w + 4) = 0 then due0 (r (9 + 5 * w)) (r (9 + 5 * w + 1)) else 0) + due0 (r (9 + 5 * i)) (r (9 + 5 * i + 1)) := by
          show _ + (if r (9 + 5 * i + 4) = 0 then due0 (r (9 + 5 * i)) (r (9 + 5 * i + 1)) else 0) = _
          rw [if_pos c]
        rw [e2] at e
        exact e
      · rw [if_neg (nI_ne0 (by omega) (by omega)), fX0_openDues_38, nI_1]
        have e2 : sumTo (i + 1) (fun w => if r (9 + 5 * w + 4) = 0 then due0 (r (9 + 5 * w)) (r (9 + 5 * w + 1)) else 0) = sumTo i (fun w => if r (9 + 5 * w + 4) = 0 then due0 (r (9 + 5 * w)) (r (9 + 5 * w + 1)) else 0) := by
          show _ + (if r (9 + 5 * i + 4) = 0 then due0 (r (9 + 5 * i)) (r (9 + 5 * i + 1)) else 0) = _
          rw [if_neg c]
          rfl
        rw [e2] at e
        exact e
  exact key (r 0) FU 0 (by omega) (FU_gt (by omega))
theorem x_movingAt (F : HouseF ρ a r B) (bt : BitsR r B) (ok : OKr r) {h : Nat} (hh : h < 24) : fX0_movingAt ρ a (nI h) = some (nI (mvN r h)) := by
  have h8 := ok.1.1
  have key : ∀ k n i, i + k = r 0 → k < n → fX0_movingAt_4 ρ n a (nI h) (nI (sumTo i (fun w => mov r w h))) (nI i) = some (nI (mvN r h)) := by
    intro k
    induction k with
    | zero =>
      intro n i hi hn
      obtain ⟨n, rfl⟩ : ∃ m, n = m + 1 := ⟨n - 1, by omega⟩
      obtain rfl : i = r 0 := by omega
      rw [fX0_movingAt_4, F.2.1.1, Option.bind_some, if_pos (nI_le (Nat.le_refl _) (by omega))]
      rfl
    | succ k ih =>
      intro n i hi hn
      obtain ⟨n, rfl⟩ : ∃ m, n = m + 1 := ⟨n - 1, by omega⟩
      have hw : i < r 0 := by omega
      rw [fX0_movingAt_4, F.2.1.1, Option.bind_some, if_neg (nI_ge hw (by omega)), F.1.1, Option.bind_some, x_isMoving F bt ok hw hh, Option.bind_some]
      have e : fX0_movingAt_4 ρ n a (nI h) (nI (sumTo i (fun w => mov r w h) + mov r i h)) (nI (i + 1)) = _ := ih n (i + 1) (by omega) (by omega)
      have h1 := mov_le (r := r) i h
      rcases (show mov r i h = 0 ∨ mov r i h = 1 by omega) with c | c
      · rw [c, if_pos (show nI 0 = 0 from rfl), fX0_movingAt_24, nI_1]
        rw [c] at e
        exact e
      · rw [c, if_neg (by decide), fX0_movingAt_24, nI_1, nI_1]
        rw [c] at e
        exact e
  exact key (r 0) FU 0 (by omega) (FU_gt (by omega))
theorem x_owedBehindYear (F : HouseF ρ a r B) (bt : BitsR r B) (ok : OKr r) {o h : Nat} (ho : o ≤ 99999) (hh : h < 24) : fX0_owedBehindYear ρ a (nI o) (nI h) = some (nI (yrO r o h)) := by
  have h8 := ok.1.1
  have h4 := ok.1.2.2.2.2.2
  have hmv : sumTo (r 0) (fun w => mov r w h * (r (9 + 5 * w + 1) + 1)) ≤ 80 := by
    have := sumTo_le (n := r 0) (b := 10) (f := fun w => mov r w h * (r (9 + 5 * w + 1) + 1)) (fun i hi => by
      have h1 := mov_le (r := r) i h
      have h2 := (ok.2.2 i hi).2.1
      show mov r i h * (r (9 + 5 * i + 1) + 1) ≤ 10
      rcases (show mov r i h = 0 ∨ mov r i h = 1 by omega) with c | c <;> rw [c] <;> omega)
    omega
  have hdu : dus r ≤ 1440 := by
    have := sumTo_le (n := r 0) (b := 20) (f := fun w => if r (9 + 5 * w + 4) = 0 then due0 (r (9 + 5 * w)) (r (9 + 5 * w + 1)) else 0) (fun i hi => by
      obtain ⟨g1, g2, -⟩ := ok.2.2 i hi
      show (if _ then _ else _) ≤ 20
      split
      · exact due0_le _ g1 _ g2
      · omega)
    unfold dus
    exact Nat.le_trans (Nat.mul_le_mul (show _ ≤ 160 by omega) h4) (by omega)
  have key : ∀ k n i, i + k = r 0 → k < n → fX0_owedBehindYear_8 ρ n a (nI o) (nI h) (nI (dus r + sumTo i (fun w => mov r w h * (r (9 + 5 * w + 1) + 1)) * r 4)) (nI i) = some (nI (yrO r o h)) := by
    intro k
    induction k with
    | zero =>
      intro n i hi hn
      obtain ⟨n, rfl⟩ : ∃ m, n = m + 1 := ⟨n - 1, by omega⟩
      obtain rfl : i = r 0 := by omega
      have hm : sumTo (r 0) (fun w => mov r w h * (r (9 + 5 * w + 1) + 1)) * r 4 ≤ 720 := Nat.mul_le_mul hmv h4
      rw [fX0_owedBehindYear_8, F.2.1.1, Option.bind_some, if_pos (nI_le (Nat.le_refl _) (by omega)), nI_add, show (99999 : Int32) = nI 99999 from rfl]
      unfold yrO mvD
      rw [← Nat.add_assoc]
      by_cases c : o + dus r + sumTo (r 0) (fun w => mov r w h * (r (9 + 5 * w + 1) + 1)) * r 4 < 99999
      · rw [if_pos c, if_pos ((nI_ltI (by omega) (by omega)).mpr c)]
      · rw [if_neg c, if_neg (fun q => c ((nI_ltI (by omega) (by omega)).mp q))]
    | succ k ih =>
      intro n i hi hn
      obtain ⟨n, rfl⟩ : ∃ m, n = m + 1 := ⟨n - 1, by omega⟩
      have hw : i < r 0 := by omega
      rw [fX0_owedBehindYear_8, F.2.1.1, Option.bind_some, if_neg (nI_ge hw (by omega)), F.1.1, Option.bind_some, x_isMoving F bt ok hw hh, Option.bind_some]
      have e : fX0_owedBehindYear_8 ρ n a (nI o) (nI h) (nI (dus r + (sumTo i (fun w => mov r w h * (r (9 + 5 * w + 1) + 1)) + mov r i h * (r (9 + 5 * i + 1) + 1)) * r 4)) (nI (i + 1)) = _ := ih n (i + 1) (by omega) (by omega)
      have h1 := mov_le (r := r) i h
      rcases (show mov r i h = 0 ∨ mov r i h = 1 by omega) with c | c
      · rw [c, if_pos (show nI 0 = 0 from rfl), fX0_owedBehindYear_44, nI_1]
        rw [c, Nat.zero_mul, Nat.add_zero] at e
        exact e
      · rw [c, if_neg (by decide), F.1.2.2.1, Option.bind_some, (F.2.2.1 i hw).2.1, Option.bind_some, F.2.1.2.2.2.2.2, Option.bind_some, fX0_owedBehindYear_44, nI_1, nI_1, pk_mul, nI_add]
        rw [c, Nat.one_mul, Nat.add_mul, ← Nat.add_assoc] at e
        exact e
  unfold fX0_owedBehindYear
  rw [F.1.1, Option.bind_some, x_openDues F bt ok, Option.bind_some]
  have e := key (r 0) FU 0 (by omega) (FU_gt (by omega))
  rw [show sumTo 0 (fun w => mov r w h * (r (9 + 5 * w + 1) + 1)) = 0 from rfl, Nat.zero_mul, Nat.add_zero] at e
  exact e
theorem yrO_le (o h : Nat) : yrO r o h ≤ 99999 := by
  unfold yrO
  split <;> omega
end HX
