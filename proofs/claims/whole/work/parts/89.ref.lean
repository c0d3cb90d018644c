/-! PURE: a house in the reference's row, what its reading methods answer. -/
def ArrR (ρ : Rho) (a : Nat) (r : Nat → Nat) : Prop := ∃ f : Nat → Int32, ρ a = some (iC 49 f) ∧ (∀ j, j < 9 → f j = nI (r j)) ∧ ∀ w, w < r 0 → ∀ i, i < 5 → f (9 + 5 * w + i) = nI (r (9 + 5 * w + i))
def ArrF (ρ : Rho) (a : Nat) (r : Nat → Nat) : Prop := (∀ j, j < 9 → ldI ρ a (nI j) = some (nI (r j))) ∧ ∀ w, w < r 0 → ∀ i, i < 5 → ldI ρ a (nI (9 + 5 * w + i)) = some (nI (r (9 + 5 * w + i)))
theorem ArrR.f {ρ : Rho} {a : Nat} {r : Nat → Nat} (h : ArrR ρ a r) (h8 : r 0 ≤ 8) : ArrF ρ a r := by
  obtain ⟨f, h0, h1, h2⟩ := h
  refine ⟨fun j hj => ?_, fun w hw i hi => ?_⟩
  · rw [ldI_at h0 (by omega) (by omega), h1 j hj]
  · rw [ldI_at h0 (by omega) (by omega), h2 w hw i hi]
theorem m_of (ρ : Rho) (w i : Nat) : fX10_of ρ (nI w) (nI i) = some (nI (9 + 5 * w + i)) := by
  unfold fX10_of
  rw [fa_lit 9, fa_lit 5, pk_mul, nI_add, nI_add]
theorem m_isIn_in (ρ : Rho) {j lo hi : Nat} (h1 : lo ≤ j) (h2 : j ≤ hi) (hh : hi < 2 ^ 31) : fX10_isIn ρ (nI j) (nI lo) (nI hi) = some (nI 1) := by
  unfold fX10_isIn
  rw [if_neg (nI_nlt h1 (by omega)), if_neg (nI_nlt h2 hh)]
  rfl
theorem m_isIn_out (ρ : Rho) {v lo hi : Int32} (h : v < lo ∨ hi < v) : fX10_isIn ρ v lo hi = some (nI 0) := by
  unfold fX10_isIn
  by_cases c : v < lo
  · rw [if_pos c]; rfl
  · rw [if_neg c, if_pos (h.resolve_left c)]; rfl
theorem m_room_in (ρ : Rho) {j : Nat} (h : j < 4) : fX10_isRoom ρ (nI j) = some (nI 1) := by
  unfold fX10_isRoom
  rw [show (0 : Int32) = nI 0 from rfl, show (3 : Int32) = nI 3 from rfl, m_isIn_in ρ (by omega) (by omega) (by omega)]
  rfl
theorem m_room_out (ρ : Rho) {v : Int32} (h : v < nI 0 ∨ nI 3 < v) : fX10_isRoom ρ v = some (nI 0) := by
  unfold fX10_isRoom
  rw [show (0 : Int32) = nI 0 from rfl, show (3 : Int32) = nI 3 from rfl, m_isIn_out ρ h]
  rfl
theorem m_hour_in (ρ : Rho) {j : Nat} (h : j < 24) : fX10_isHour ρ (nI j) = some (nI 1) := by
  unfold fX10_isHour
  rw [show (0 : Int32) = nI 0 from rfl, show (23 : Int32) = nI 23 from rfl, m_isIn_in ρ (by omega) (by omega) (by omega)]
  rfl
theorem m_hour_out (ρ : Rho) {v : Int32} (h : v < nI 0 ∨ nI 23 < v) : fX10_isHour ρ v = some (nI 0) := by
  unfold fX10_isHour
  rw [show (0 : Int32) = nI 0 from rfl, show (23 : Int32) = nI 23 from rfl, m_isIn_out ρ h]
  rfl
theorem m_most0 (ρ : Rho) {a b : Nat} (ha : a < 2 ^ 30) (hb : b < 2 ^ 30) : fX10_most ρ 0 (nI a - nI b) = some (nI (a - b)) := by
  unfold fX10_most
  by_cases h : b ≤ a
  · rw [pk_sub h, if_pos (nI_pos' (by omega))]
  · have e : a - b = 0 := by omega
    rw [e, if_neg]
    · rfl
    · intro q
      rw [Int32.le_iff_toInt_le, pk_sub_toInt ha hb, Int32.toInt_zero] at q
      omega
section HM
variable {ρ : Rho} {a : Nat} {r : Nat → Nat}
theorem m_isOpen (F : ArrF ρ a r) (ok : OKr r) {w : Nat} (hw : w < r 0) : fX10_isOpen ρ a (nI w) = some (nI (1 - r (9 + 5 * w + 4))) := by
  have h1 := (ok.2.2 w hw).2.2.2.2
  unfold fX10_isOpen
  rw [fa_lit 4, m_of, Option.bind_some, F.2 w hw 4 (by omega), Option.bind_some]
  generalize r (9 + 5 * w + 4) = t at h1
  rcases (show t = 0 ∨ t = 1 by omega) with rfl | rfl <;> rfl
theorem m_farAt (F : ArrF ρ a r) (ok : OKr r) {w h : Nat} (hw : w < r 0) (hh : h < 24) : fX10_farAt ρ a (nI w) (nI h) = some (nI (apR r w h)) := by
  have g4 := (ok.2.2 w hw).2.2.2.1
  unfold fX10_farAt
  rw [fa_lit 3, m_of, Option.bind_some, F.2 w hw 3 (by omega), Option.bind_some, show fX10_apart ρ = fX10_apart ρN from rfl, lM_apart _ hh _ g4, Option.bind_some, (apt_lt _ hh _ g4).2]
  rfl
theorem m_kind (F : ArrF ρ a r) {w : Nat} (hw : w < r 0) : ldI ρ a (nI (9 + 5 * w + 0)) = some (nI (r (9 + 5 * w))) := F.2 w hw 0 (by omega)
theorem m_shines (F : ArrF ρ a r) (ok : OKr r) {w h : Nat} (hw : w < r 0) (hh : h < 24) : fX10_shines ρ a (nI w) (nI h) = some (nI (shn r w h)) := by
  obtain ⟨g1, g2, g3, g4, g5⟩ := ok.2.2 w hw
  unfold fX10_shines shn
  rw [m_isOpen F ok hw, Option.bind_some]
  by_cases c : r (9 + 5 * w + 4) = 0
  · rw [c, if_neg (by decide), if_pos rfl, fa_lit 0, fa_lit 1, m_of, Option.bind_some, m_kind F hw, Option.bind_some, m_of, Option.bind_some, F.2 w hw 1 (by omega), Option.bind_some, m_farAt F ok hw hh, Option.bind_some, show fX10_shinesBy ρ = fX10_shinesBy ρN from rfl, lM_shinesBy _ g1 _ g2 _ (ok.ap hw hh)]
    rfl
  · rw [if_neg c, show 1 - r (9 + 5 * w + 4) = 0 by omega]
    rfl
theorem m_moves (F : ArrF ρ a r) (ok : OKr r) {w h : Nat} (hw : w < r 0) (hh : h < 24) : fX10_moves ρ a (nI w) (nI h) = some (nI (mov r w h)) := by
  obtain ⟨g1, g2, g3, g4, g5⟩ := ok.2.2 w hw
  unfold fX10_moves mov
  rw [m_isOpen F ok hw, Option.bind_some]
  by_cases c : r (9 + 5 * w + 4) = 0
  · rw [c, if_neg (by decide), if_pos rfl, show fX10_of ρ (nI w) 0 = fX10_of ρ (nI w) (nI 0) from rfl, show fX10_of ρ (nI w) 1 = fX10_of ρ (nI w) (nI 1) from rfl, m_of, Option.bind_some, m_kind F hw, Option.bind_some, m_of, Option.bind_some, F.2 w hw 1 (by omega), Option.bind_some, m_farAt F ok hw hh, Option.bind_some, show fX10_movesBy ρ = fX10_movesBy ρN from rfl, lM_movesBy _ g1 _ g2 _ (ok.ap hw hh) _ hh, Option.bind_some]
    have h1 := mov0_le (r (9 + 5 * w)) (r (9 + 5 * w + 1)) (apR r w h) h
    show (if nI (mov0 (r (9 + 5 * w)) (r (9 + 5 * w + 1)) (apR r w h) h) = 0 then nb 0 else nb 1) = _
    generalize mov0 (r (9 + 5 * w)) (r (9 + 5 * w + 1)) (apR r w h) h = t at h1
    rcases (show t = 0 ∨ t = 1 by omega) with rfl | rfl <;> rfl
  · rw [if_neg c, show 1 - r (9 + 5 * w + 4) = 0 by omega]
    rfl
theorem m_seems (F : ArrF ρ a r) (ok : OKr r) {w h : Nat} (hw : w < r 0) (hh : h < 24) : fX10_seems ρ a (nI w) (nI h) = some (nI (sem r w h)) := by
  obtain ⟨g1, g2, g3, g4, g5⟩ := ok.2.2 w hw
  unfold fX10_seems sem usem
  rw [m_isOpen F ok hw, Option.bind_some]
  by_cases c : r (9 + 5 * w + 4) = 0
  · rw [c, if_neg (by decide), if_pos rfl, fa_lit 0, fa_lit 1, m_of, Option.bind_some, m_kind F hw, Option.bind_some, m_of, Option.bind_some, F.2 w hw 1 (by omega), Option.bind_some, m_farAt F ok hw hh, Option.bind_some, show fX10_seemsBy ρ = fX10_seemsBy ρN from rfl, lM_seemsBy _ g1 _ g2 _ (ok.ap hw hh) _ hh]
    rfl
  · rw [if_neg c, show 1 - r (9 + 5 * w + 4) = 0 by omega]
    rfl
theorem m_lightOf (F : ArrF ρ a r) (ok : OKr r) {room h : Nat} (hr : room < 4) (hh : h < 24) : fX10_lightOf ρ a (nI room) (nI h) = some (nI (lit r room h)) := by
  have h8 := ok.1.1
  have key : ∀ k n i, i + k = r 0 → k < n → fX10_lightOf_5 ρ n a (nI room) (nI h) (nI (sumTo i (fun w => if r (9 + 5 * w + 2) = room then shn r w h else 0))) (nI i) = some (nI (lit r room h)) := by
    intro k
    induction k with
    | zero =>
      intro n i hi hn
      obtain ⟨n, rfl⟩ : ∃ m, n = m + 1 := ⟨n - 1, by omega⟩
      obtain rfl : i = r 0 := by omega
      rw [fX10_lightOf_5, fa_lit 0, F.1 0 (by omega), Option.bind_some, if_pos (nI_le (Nat.le_refl _) (by omega))]
      rfl
    | succ k ih =>
      intro n i hi hn
      obtain ⟨n, rfl⟩ : ∃ m, n = m + 1 := ⟨n - 1, by omega⟩
      have hw : i < r 0 := by omega
      obtain ⟨g1, g2, g3, g4, g5⟩ := ok.2.2 i hw
      rw [fX10_lightOf_5, fa_lit 0, F.1 0 (by omega), Option.bind_some, if_neg (nI_ge hw (by omega)), fa_lit 2, m_of, Option.bind_some, F.2 i hw 2 (by omega), Option.bind_some]
      have e := ih n (i + 1) (by omega) (by omega)
      by_cases c : r (9 + 5 * i + 2) = room
      · rw [if_pos (by rw [c]), m_shines F ok hw hh, Option.bind_some, fX10_lightOf_37, nI_add, nI_1]
        have e2 : sumTo (i + 1) (fun w => if r (9 + 5 * w + 2) = room then shn r w h else 0) = sumTo i (fun w => if r (9 + 5 * w + 2) = room then shn r w h else 0) + shn r i h := by
          show _ + (if r (9 + 5 * i + 2) = room then shn r i h else 0) = _
          rw [if_pos c]
        rw [e2] at e
        exact e
      · rw [if_neg (fun q => c ((nI_eq (by omega) (by omega)).mp q)), fX10_lightOf_37, nI_1, nI_add]
        have e2 : sumTo (i + 1) (fun w => if r (9 + 5 * w + 2) = room then shn r w h else 0) = sumTo i (fun w => if r (9 + 5 * w + 2) = room then shn r w h else 0) + 0 := by
          show _ + (if r (9 + 5 * i + 2) = room then shn r i h else 0) = _
          rw [if_neg c]
        rw [e2] at e
        exact e
  exact key (r 0) FU 0 (by omega) (FU_gt (by omega))
/-- all rooms' light together -/
theorem lit_all (ok : OKr r) (h : Nat) : sumTo 4 (fun room => lit r room h) = alit r h := by
  have key : ∀ n, n ≤ r 0 → sumTo 4 (fun room => sumTo n (fun w => if r (9 + 5 * w + 2) = room then shn r w h else 0)) = sumTo n (fun w => shn r w h) := by
    intro n
    induction n with
    | zero => intro _; rfl
    | succ n ih =>
      intro hn
      have g3 := (ok.2.2 n (by omega)).2.2.1
      have e := ih (by omega)
      show sumTo 4 (fun room => sumTo n (fun w => if r (9 + 5 * w + 2) = room then shn r w h else 0) + (if r (9 + 5 * n + 2) = room then shn r n h else 0)) = sumTo n (fun w => shn r w h) + shn r n h
      rw [sumTo_add, e]
      congr 1
      generalize r (9 + 5 * n + 2) = t at g3
      rcases (show t = 0 ∨ t = 1 ∨ t = 2 ∨ t = 3 by omega) with rfl | rfl | rfl | rfl <;> simp [sumTo]
  exact key (r 0) (Nat.le_refl _)
theorem m_allLight (F : ArrF ρ a r) (ok : OKr r) {h : Nat} (hh : h < 24) : fX10_allLight ρ a (nI h) = some (nI (alit r h)) := by
  rw [← lit_all ok h]
  have key : ∀ k n i, i + k = 4 → k < n → fX10_allLight_4 ρ n a (nI h) (nI (sumTo i (fun room => lit r room h))) (nI i) = some (nI (sumTo 4 (fun room => lit r room h))) := by
    intro k
    induction k with
    | zero =>
      intro n i hi hn
      obtain ⟨n, rfl⟩ : ∃ m, n = m + 1 := ⟨n - 1, by omega⟩
      obtain rfl : i = 4 := by omega
      rw [fX10_allLight_4, if_pos (show (4 : Int32) ≤ nI 4 from nI_le (a := 4) (Nat.le_refl _) (by omega))]
    | succ k ih =>
      intro n i hi hn
      obtain ⟨n, rfl⟩ : ∃ m, n = m + 1 := ⟨n - 1, by omega⟩
      rw [fX10_allLight_4, if_neg (show ¬ (4 : Int32) ≤ nI i from nI_ge (b := 4) (show i < 4 by omega) (by omega)), m_lightOf F ok (show i < 4 by omega) hh, Option.bind_some, nI_add, nI_1]
      exact ih n (i + 1) (by omega) (by omega)
  exact key 4 FU 0 (by omega) (FU_gt (by omega))
theorem m_need (F : ArrF ρ a r) {room : Nat} (hr : room < 4) : ldI ρ a ((5 : Int32) + nI room) = some (nI (r (5 + room))) := by
  rw [fa_lit 5, nI_add]
  exact F.1 _ (by omega)
theorem m_lacks (F : ArrF ρ a r) (ok : OKr r) {room h : Nat} (hr : room < 4) (hh : h < 24) : fX10_lacks ρ a (nI room) (nI h) = some (nI (lck r room h)) := by
  have h2 := ok.2.1 room hr
  have h3 := lit_le ok (room := room) hh
  unfold fX10_lacks lck
  rw [m_need F hr, Option.bind_some, m_lightOf F ok hr hh, Option.bind_some, m_most0 ρ (by omega) (by omega)]
  rfl
theorem m_isDark (F : ArrF ρ a r) (ok : OKr r) {h : Nat} (hh : h < 24) : fX10_isDark ρ a (nI h) = some (nI (drk r h)) := by
  have hk : ∀ room, room < 4 → lck r room h ≤ 20 := fun room hr => by
    have := ok.2.1 room hr
    unfold lck
    omega
  have step : ∀ n i, i < 4 → fX10_isDark_2 ρ (n + 1) a (nI h) (nI i) = if lck r i h = 0 then fX10_isDark_2 ρ n a (nI h) (nI (i + 1)) else some (nI 1) := fun n i hi => by
    have h2 := hk i hi
    rw [fX10_isDark_2, if_neg (show ¬ (4 : Int32) ≤ nI i from nI_ge (b := 4) hi (by omega)), m_lacks F ok hi hh, Option.bind_some, nI_1]
    by_cases c : lck r i h = 0
    · rw [if_pos c, if_pos (by rw [c]; decide)]
    · rw [if_neg c, if_neg (nI_nle (by omega) (by omega))]
      rfl
  have e4 : ∀ n, fX10_isDark_2 ρ (n + 1) a (nI h) (nI 4) = some (nI 0) := fun n => by
    rw [fX10_isDark_2, if_pos (show (4 : Int32) ≤ nI 4 from nI_le (a := 4) (Nat.le_refl _) (by omega))]
    rfl
  unfold fX10_isDark drk
  rw [show FU = 99995 + 1 + 1 + 1 + 1 + 1 from rfl, show (0 : Int32) = nI 0 from rfl, step _ 0 (by omega), step _ 1 (by omega), step _ 2 (by omega), step _ 3 (by omega), e4]
  by_cases c0 : lck r 0 h = 0
  · by_cases c1 : lck r 1 h = 0
    · by_cases c2 : lck r 2 h = 0
      · by_cases c3 : lck r 3 h = 0
        · simp [c0, c1, c2, c3]
        · simp [c0, c1, c2, c3]
      · simp [c0, c1, c2]
    · simp [c0, c1]
  · simp [c0]
theorem m_duesOf (F : ArrF ρ a r) (ok : OKr r) : fX10_duesOf ρ a = some (nI (dus r)) := by
  have h8 := ok.1.1
  have key : ∀ k n i, i + k = r 0 → k < n → fX10_duesOf_4 ρ n a (nI (sumTo i (fun w => if r (9 + 5 * w + 4) = 0 then due0 (r (9 + 5 * w)) (r (9 + 5 * w + 1)) else 0))) (nI i) = some (nI (dus r)) := by
    intro k
    induction k with
    | zero =>
      intro n i hi hn
      obtain ⟨n, rfl⟩ : ∃ m, n = m + 1 := ⟨n - 1, by omega⟩
      obtain rfl : i = r 0 := by omega
      rw [fX10_duesOf_4, fa_lit 0, F.1 0 (by omega), Option.bind_some, if_pos (nI_le (Nat.le_refl _) (by omega)), fa_lit 4, F.1 4 (by omega), Option.bind_some, pk_mul]
      rfl
    | succ k ih =>
      intro n i hi hn
      obtain ⟨n, rfl⟩ : ∃ m, n = m + 1 := ⟨n - 1, by omega⟩
      have hw : i < r 0 := by omega
      obtain ⟨g1, g2, g3, g4, g5⟩ := ok.2.2 i hw
      rw [fX10_duesOf_4, show ldI ρ a 0 = ldI ρ a (nI 0) from rfl, F.1 0 (by omega), Option.bind_some, if_neg (nI_ge hw (by omega)), m_isOpen F ok hw, Option.bind_some]
      have e := ih n (i + 1) (by omega) (by omega)
      by_cases c : r (9 + 5 * i + 4) = 0
      · rw [c, if_neg (by decide), show fX10_of ρ (nI i) 0 = fX10_of ρ (nI i) (nI 0) from rfl, show fX10_of ρ (nI i) 1 = fX10_of ρ (nI i) (nI 1) from rfl, m_of, Option.bind_some, m_kind F hw, Option.bind_some, m_of, Option.bind_some, F.2 i hw 1 (by omega), Option.bind_some, show fX10_dueBy ρ = fX10_dueBy ρN from rfl, lM_dueBy _ g1 _ g2, Option.bind_some, fX10_duesOf_41, nI_add, nI_1]
        have e2 : sumTo (i + 1) (fun w => if r (9 + 5 * w + 4) = 0 then due0 (r (9 + 5 * w)) (r (9 + 5 * w + 1)) else 0) = sumTo i (fun w => if r (9 + 5 * w + 4) = 0 then due0 (r (9 + 5 * w)) (r (9 + 5 * w + 1)) else 0) + due0 (r (9 + 5 * i)) (r (9 + 5 * i + 1)) := by
          show _ + (if r (9 + 5 * i + 4) = 0 then due0 (r (9 + 5 * i)) (r (9 + 5 * i + 1)) else 0) = _
          rw [if_pos c]
        rw [e2] at e
        exact e
      · rw [show 1 - r (9 + 5 * i + 4) = 0 by omega, if_pos (show nI 0 = 0 from rfl), fX10_duesOf_41, nI_1, show (0 : Int32) = nI 0 from rfl, nI_add]
        have e2 : sumTo (i + 1) (fun w => if r (9 + 5 * w + 4) = 0 then due0 (r (9 + 5 * w)) (r (9 + 5 * w + 1)) else 0) = sumTo i (fun w => if r (9 + 5 * w + 4) = 0 then due0 (r (9 + 5 * w)) (r (9 + 5 * w + 1)) else 0) + 0 := by
          show _ + (if r (9 + 5 * i + 4) = 0 then due0 (r (9 + 5 * i)) (r (9 + 5 * i + 1)) else 0) = _
          rw [if_neg c]
        rw [e2] at e
        exact e
  exact key (r 0) FU 0 (by omega) (FU_gt (by omega))
theorem m_movesDue (F : ArrF ρ a r) (ok : OKr r) {h : Nat} (hh : h < 24) : fX10_movesDue ρ a (nI h) = some (nI (mvD r h)) := by
  have h8 := ok.1.1
  have key : ∀ k n i, i + k = r 0 → k < n → fX10_movesDue_4 ρ n a (nI h) (nI (sumTo i (fun w => mov r w h * (r (9 + 5 * w + 1) + 1)))) (nI i) = some (nI (mvD r h)) := by
    intro k
    induction k with
    | zero =>
      intro n i hi hn
      obtain ⟨n, rfl⟩ : ∃ m, n = m + 1 := ⟨n - 1, by omega⟩
      obtain rfl : i = r 0 := by omega
      rw [fX10_movesDue_4, fa_lit 0, F.1 0 (by omega), Option.bind_some, if_pos (nI_le (Nat.le_refl _) (by omega))]
      rfl
    | succ k ih =>
      intro n i hi hn
      obtain ⟨n, rfl⟩ : ∃ m, n = m + 1 := ⟨n - 1, by omega⟩
      have hw : i < r 0 := by omega
      rw [fX10_movesDue_4, show ldI ρ a 0 = ldI ρ a (nI 0) from rfl, F.1 0 (by omega), Option.bind_some, if_neg (nI_ge hw (by omega)), m_moves F ok hw hh, Option.bind_some]
      have e : fX10_movesDue_4 ρ n a (nI h) (nI (sumTo i (fun w => mov r w h * (r (9 + 5 * w + 1) + 1)) + mov r i h * (r (9 + 5 * i + 1) + 1))) (nI (i + 1)) = _ := ih n (i + 1) (by omega) (by omega)
      have h1 := mov_le (r := r) i h
      rcases (show mov r i h = 0 ∨ mov r i h = 1 by omega) with c | c
      · rw [c, if_pos (show nI 0 = 0 from rfl), fX10_movesDue_34, nI_1, show (0 : Int32) = nI 0 from rfl, nI_add]
        rw [c, Nat.zero_mul] at e
        exact e
      · rw [c, if_neg (by decide), show fX10_of ρ (nI i) 1 = fX10_of ρ (nI i) (nI 1) from rfl, m_of, Option.bind_some, F.2 i hw 1 (by omega), Option.bind_some, fX10_movesDue_34, nI_1, nI_1, nI_add]
        rw [c, Nat.one_mul] at e
        exact e
  exact key (r 0) FU 0 (by omega) (FU_gt (by omega))
theorem m_movesMany (F : ArrF ρ a r) (ok : OKr r) {h : Nat} (hh : h < 24) : fX10_movesMany ρ a (nI h) = some (nI (mvN r h)) := by
  have h8 := ok.1.1
  have key : ∀ k n i, i + k = r 0 → k < n → fX10_movesMany_4 ρ n a (nI h) (nI (sumTo i (fun w => mov r w h))) (nI i) = some (nI (mvN r h)) := by
    intro k
    induction k with
    | zero =>
      intro n i hi hn
      obtain ⟨n, rfl⟩ : ∃ m, n = m + 1 := ⟨n - 1, by omega⟩
      obtain rfl : i = r 0 := by omega
      rw [fX10_movesMany_4, fa_lit 0, F.1 0 (by omega), Option.bind_some, if_pos (nI_le (Nat.le_refl _) (by omega))]
      rfl
    | succ k ih =>
      intro n i hi hn
      obtain ⟨n, rfl⟩ : ∃ m, n = m + 1 := ⟨n - 1, by omega⟩
      have hw : i < r 0 := by omega
      rw [fX10_movesMany_4, show ldI ρ a 0 = ldI ρ a (nI 0) from rfl, F.1 0 (by omega), Option.bind_some, if_neg (nI_ge hw (by omega)), m_moves F ok hw hh, Option.bind_some]
      have e : fX10_movesMany_4 ρ n a (nI h) (nI (sumTo i (fun w => mov r w h) + mov r i h)) (nI (i + 1)) = _ := ih n (i + 1) (by omega) (by omega)
      have h1 := mov_le (r := r) i h
      rcases (show mov r i h = 0 ∨ mov r i h = 1 by omega) with c | c
      · rw [c, if_pos (show nI 0 = 0 from rfl), fX10_movesMany_26, nI_1, show (0 : Int32) = nI 0 from rfl, nI_add]
        rw [c] at e
        exact e
      · rw [c, if_neg (by decide), fX10_movesMany_26, nI_1, show (1 : Int32) = nI 1 from rfl, nI_add]
        rw [c] at e
        exact e
  exact key (r 0) FU 0 (by omega) (FU_gt (by omega))
end HM
