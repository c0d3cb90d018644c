/-! PURE: hidden. -/
/-- a room dark now by the second row that is light by the first -/
def DkP (r r' : Nat → Nat) (room h : Nat) : Prop := 0 < lck r' room h ∧ lck r room h = 0
def DkB (r r' : Nat → Nat) : Prop := ∃ room h, room < 4 ∧ h < 24 ∧ DkP r r' room h
theorem lck_le {r : Nat → Nat} (ok : OKr r) {room : Nat} (hr : room < 4) (h : Nat) : lck r room h ≤ 20 := by
  have := ok.2.1 room hr
  unfold lck
  omega
theorem x_darker {σ : Rho} {a b B B' : Nat} {r r' : Nat → Nat} (F : HouseF σ a r B) (bt : BitsR r B) (ok : OKr r) (F' : HouseF σ b r' B') (bt' : BitsR r' B') (ok' : OKr r') : (DkB r r' → fX2_isDarkerAnywhere σ a b = some (nI 1)) ∧ (¬ DkB r r' → fX2_isDarkerAnywhere σ a b = some (nI 0)) := by
  have inner : ∀ k n h room k2, h + k = 24 → k < n → room < 4 → ((∃ h', h ≤ h' ∧ h' < 24 ∧ DkP r r' room h') → fX2_isDarkerAnywhere_9 σ k2 n a b (nI room) (nI h) = some (nI 1)) ∧ ((∀ h', h ≤ h' → h' < 24 → ¬ DkP r r' room h') → fX2_isDarkerAnywhere_9 σ k2 n a b (nI room) (nI h) = k2 a b (nI (room + 1))) := by
    intro k
    induction k with
    | zero =>
      intro n h room k2 hi hn hr
      obtain ⟨n, rfl⟩ : ∃ p0, n = p0 + 1 := ⟨n - 1, by omega⟩
      obtain rfl : h = 24 := by omega
      rw [fX2_isDarkerAnywhere_9, if_pos (show (24 : Int32) ≤ nI 24 by decide), nI_1]
      exact ⟨fun ⟨h', q1, q2, _⟩ => absurd q1 (by omega), fun _ => rfl⟩
    | succ k ih =>
      intro n h room k2 hi hn hr
      obtain ⟨n, rfl⟩ : ∃ p0, n = p0 + 1 := ⟨n - 1, by omega⟩
      have hlt : h < 24 := by omega
      have l1 := lck_le ok hr h
      have l2 := lck_le ok' hr h
      obtain ⟨i1, i2⟩ := ih n (h + 1) room k2 (by omega) (by omega) hr
      have st : fX2_isDarkerAnywhere_9 σ k2 (n + 1) a b (nI room) (nI h) = if lck r' room h ≤ 0 then fX2_isDarkerAnywhere_9 σ k2 n a b (nI room) (nI (h + 1)) else if lck r room h = 0 then some (nI 1) else fX2_isDarkerAnywhere_9 σ k2 n a b (nI room) (nI (h + 1)) := by
        rw [fX2_isDarkerAnywhere_9, if_neg (show ¬ (24 : Int32) ≤ nI h from nI_ge (b := 24) hlt (by omega))]
        simp (disch := omega) only [Option.bind_some, fa_lit, nI_add, pk_mul, nI_leI, nI_ltI, nI_eq, nb_0, nb_1, if_true, if_false, F.1.1, F'.1.1, x_lackOf F bt ok hr hlt, x_lackOf F' bt' ok' hr hlt, fX2_isDarkerAnywhere_35]
      rw [st]
      by_cases c1 : lck r' room h ≤ 0
      · rw [if_pos c1]
        refine ⟨fun ⟨h', q1, q2, q3⟩ => i1 ⟨h', ?_, q2, q3⟩, fun q => i2 (fun h' q1 q2 => q h' (by omega) q2)⟩
        by_cases e : h' = h
        · rw [e] at q3; exact absurd q3.1 (by omega)
        · omega
      · rw [if_neg c1]
        by_cases c2 : lck r room h = 0
        · rw [if_pos c2]
          exact ⟨fun _ => rfl, fun q => absurd ⟨by omega, c2⟩ (q h (Nat.le_refl _) hlt)⟩
        · rw [if_neg c2]
          refine ⟨fun ⟨h', q1, q2, q3⟩ => i1 ⟨h', ?_, q2, q3⟩, fun q => i2 (fun h' q1 q2 => q h' (by omega) q2)⟩
          by_cases e : h' = h
          · rw [e] at q3; exact absurd q3.2 c2
          · omega
  have outer : ∀ k n room, room + k = 4 → k < n → ((∃ room' h, room ≤ room' ∧ room' < 4 ∧ h < 24 ∧ DkP r r' room' h) → fX2_isDarkerAnywhere_2 σ n a b (nI room) = some (nI 1)) ∧ ((∀ room' h, room ≤ room' → room' < 4 → h < 24 → ¬ DkP r r' room' h) → fX2_isDarkerAnywhere_2 σ n a b (nI room) = some (nI 0)) := by
    intro k
    induction k with
    | zero =>
      intro n room hi hn
      obtain ⟨n, rfl⟩ : ∃ p0, n = p0 + 1 := ⟨n - 1, by omega⟩
      obtain rfl : room = 4 := by omega
      rw [fX2_isDarkerAnywhere_2, if_pos (show (4 : Int32) ≤ nI 4 by decide)]
      exact ⟨fun ⟨_, _, q1, q2, _⟩ => absurd q1 (by omega), fun _ => rfl⟩
    | succ k ih =>
      intro n room hi hn
      obtain ⟨n, rfl⟩ : ∃ p0, n = p0 + 1 := ⟨n - 1, by omega⟩
      have hlt : room < 4 := by omega
      obtain ⟨j1, j2⟩ := inner 24 FU 0 room (fX2_isDarkerAnywhere_2 σ n) (by omega) (FU_gt (by omega)) hlt
      obtain ⟨i1, i2⟩ := ih n (room + 1) (by omega) (by omega)
      rw [fX2_isDarkerAnywhere_2, if_neg (show ¬ (4 : Int32) ≤ nI room from nI_ge (b := 4) hlt (by omega)), fa_lit 0]
      by_cases c : ∃ h', 0 ≤ h' ∧ h' < 24 ∧ DkP r r' room h'
      · rw [j1 c]
        obtain ⟨h', _, q2, q3⟩ := c
        exact ⟨fun _ => rfl, fun q => absurd q3 (q room h' (Nat.le_refl _) hlt q2)⟩
      · rw [j2 (fun h' q1 q2 q3 => c ⟨h', q1, q2, q3⟩)]
        refine ⟨fun ⟨room', h', q1, q2, q3, q4⟩ => i1 ⟨room', h', ?_, q2, q3, q4⟩, fun q => i2 (fun room' h' q1 q2 q3 => q room' h' (by omega) q2 q3)⟩
        by_cases e : room' = room
        · rw [e] at q4; exact absurd ⟨h', Nat.zero_le _, q3, q4⟩ c
        · omega
  obtain ⟨o1, o2⟩ := outer 4 FU 0 (by omega) (FU_gt (by omega))
  exact ⟨fun ⟨room, h, q1, q2, q3⟩ => o1 ⟨room, h, Nat.zero_le _, q1, q2, q3⟩, fun q => o2 (fun room h _ q1 q2 q3 => q ⟨room, h, q1, q2, q3⟩)⟩
theorem m_noDarker {σ : Rho} {q a b : Nat} {r r' : Nat → Nat} (M1 : gR σ 3 q 0 = some a) (M2 : gR σ 3 q 1 = some b) (G : ArrF σ a r) (ok : OKr r) (G' : ArrF σ b r') (ok' : OKr r') : (DkB r r' → fX10_isNoDarker σ q = some (nI 0)) ∧ (¬ DkB r r' → fX10_isNoDarker σ q = some (nI 1)) := by
  have inner : ∀ k n h room k2, room + k = 4 → k < n → h < 24 → ((∃ room', room ≤ room' ∧ room' < 4 ∧ DkP r r' room' h) → fX10_isNoDarker_10 σ k2 n q (nI h) (nI room) = some (nI 0)) ∧ ((∀ room', room ≤ room' → room' < 4 → ¬ DkP r r' room' h) → fX10_isNoDarker_10 σ k2 n q (nI h) (nI room) = k2 q (nI (h + 1))) := by
    intro k
    induction k with
    | zero =>
      intro n h room k2 hi hn hh
      obtain ⟨n, rfl⟩ : ∃ p0, n = p0 + 1 := ⟨n - 1, by omega⟩
      obtain rfl : room = 4 := by omega
      rw [fX10_isNoDarker_10, if_pos (show (4 : Int32) ≤ nI 4 by decide), nI_1]
      exact ⟨fun ⟨h', q1, q2, _⟩ => absurd q1 (by omega), fun _ => rfl⟩
    | succ k ih =>
      intro n h room k2 hi hn hh
      obtain ⟨n, rfl⟩ : ∃ p0, n = p0 + 1 := ⟨n - 1, by omega⟩
      have hlt : room < 4 := by omega
      have l1 := lck_le ok hlt h
      have l2 := lck_le ok' hlt h
      obtain ⟨i1, i2⟩ := ih n h (room + 1) k2 (by omega) (by omega) hh
      have st : fX10_isNoDarker_10 σ k2 (n + 1) q (nI h) (nI room) = if lck r' room h ≤ 0 then fX10_isNoDarker_10 σ k2 n q (nI h) (nI (room + 1)) else if lck r room h = 0 then some (nI 0) else fX10_isNoDarker_10 σ k2 n q (nI h) (nI (room + 1)) := by
        rw [fX10_isNoDarker_10, if_neg (show ¬ (4 : Int32) ≤ nI room from nI_ge (b := 4) hlt (by omega))]
        simp (disch := omega) only [Option.bind_some, fa_lit, nI_add, pk_mul, nI_leI, nI_ltI, nI_eq, nb_0, nb_1, if_true, if_false, M1, M2, m_lacks G ok hlt hh, m_lacks G' ok' hlt hh, fX10_isNoDarker_41]
      rw [st]
      by_cases c1 : lck r' room h ≤ 0
      · rw [if_pos c1]
        refine ⟨fun ⟨h', q1, q2, q3⟩ => i1 ⟨h', ?_, q2, q3⟩, fun q => i2 (fun h' q1 q2 => q h' (by omega) q2)⟩
        by_cases e : h' = room
        · rw [e] at q3; exact absurd q3.1 (by omega)
        · omega
      · rw [if_neg c1]
        by_cases c2 : lck r room h = 0
        · rw [if_pos c2]
          exact ⟨fun _ => rfl, fun q => absurd ⟨by omega, c2⟩ (q room (Nat.le_refl _) hlt)⟩
        · rw [if_neg c2]
          refine ⟨fun ⟨h', q1, q2, q3⟩ => i1 ⟨h', ?_, q2, q3⟩, fun q => i2 (fun h' q1 q2 => q h' (by omega) q2)⟩
          by_cases e : h' = room
          · rw [e] at q3; exact absurd q3.2 c2
          · omega
  have outer : ∀ k n h, h + k = 24 → k < n → ((∃ room h', h ≤ h' ∧ room < 4 ∧ h' < 24 ∧ DkP r r' room h') → fX10_isNoDarker_2 σ n q (nI h) = some (nI 0)) ∧ ((∀ room h', h ≤ h' → room < 4 → h' < 24 → ¬ DkP r r' room h') → fX10_isNoDarker_2 σ n q (nI h) = some (nI 1)) := by
    intro k
    induction k with
    | zero =>
      intro n h hi hn
      obtain ⟨n, rfl⟩ : ∃ p0, n = p0 + 1 := ⟨n - 1, by omega⟩
      obtain rfl : h = 24 := by omega
      rw [fX10_isNoDarker_2, if_pos (show (24 : Int32) ≤ nI 24 by decide)]
      exact ⟨fun ⟨_, _, q1, _, q2, _⟩ => absurd q1 (by omega), fun _ => rfl⟩
    | succ k ih =>
      intro n h hi hn
      obtain ⟨n, rfl⟩ : ∃ p0, n = p0 + 1 := ⟨n - 1, by omega⟩
      have hlt : h < 24 := by omega
      obtain ⟨j1, j2⟩ := inner 4 FU h 0 (fX10_isNoDarker_2 σ n) (by omega) (FU_gt (by omega)) hlt
      obtain ⟨i1, i2⟩ := ih n (h + 1) (by omega) (by omega)
      rw [fX10_isNoDarker_2, if_neg (show ¬ (24 : Int32) ≤ nI h from nI_ge (b := 24) hlt (by omega)), fa_lit 0]
      by_cases c : ∃ room', 0 ≤ room' ∧ room' < 4 ∧ DkP r r' room' h
      · rw [j1 c]
        obtain ⟨room', _, q2, q3⟩ := c
        exact ⟨fun _ => rfl, fun q => absurd q3 (q room' h (Nat.le_refl _) q2 hlt)⟩
      · rw [j2 (fun h' q1 q2 q3 => c ⟨h', q1, q2, q3⟩)]
        refine ⟨fun ⟨room', h', q1, q2, q3, q4⟩ => i1 ⟨room', h', ?_, q2, q3, q4⟩, fun q => i2 (fun room' h' q1 q2 q3 => q room' h' (by omega) q2 q3)⟩
        by_cases e : h' = h
        · rw [e] at q4; exact absurd ⟨room', Nat.zero_le _, q2, q4⟩ c
        · omega
  obtain ⟨o1, o2⟩ := outer 24 FU 0 (by omega) (FU_gt (by omega))
  exact ⟨fun ⟨room, h, q1, q2, q3⟩ => o1 ⟨room, h, Nat.zero_le _, q1, q2, q3⟩, fun q => o2 (fun room h _ q1 q2 q3 => q ⟨room, h, q1, q2, q3⟩)⟩
theorem s_hidden {ρ τ : Rho} {x B B' : Nat} {r b : Nat → Nat} {mo : Nat → Int32} (H : HouseR ρ (x + 1) r B) (bt : BitsR r B) (ok : OKr r) (D : HouseR ρ (x + 13) r B') : ∃ V : Int32, (∃ ρ' B'', fX2_mostStopped ρ (x + 1) (x + 13) = some (V, ρ') ∧ Fr ρ ρ' (x + 13) 6 ∧ HouseR ρ' (x + 13) r B'') ∧ ∀ τ b mo, ArrR τ (x + 37) r → ArrR τ (x + 38) b → MO τ x mo → ∃ τ' b', fX10_hidden τ (x + 36) = some (V, τ') ∧ Fr τ τ' (x + 38) 1 ∧ ArrR τ' (x + 38) b' := by
  have h8 := ok.1.1
  have hp : 2 ^ r 0 ≤ 256 := Nat.pow_le_pow_right (by omega) h8
  have key : ∀ k n m s v, s + k = 2 ^ r 0 → k < n → k < m → v ≤ 8 → ∃ V : Int32, (∀ σ B', Fr ρ σ (x + 13) 6 → HouseR σ (x + 13) r B' → ∃ ρ' B'', fX2_mostStopped_4 n σ (x + 1) (x + 13) (nI v) (nI s) = some (V, ρ') ∧ Fr ρ ρ' (x + 13) 6 ∧ HouseR ρ' (x + 13) r B'') ∧ ∀ τ b mo, ArrR τ (x + 37) r → ArrR τ (x + 38) b → MO τ x mo → ∃ τ' b', fX10_hidden_4 m τ (x + 36) (nI v) (nI s) = some (V, τ') ∧ Fr τ τ' (x + 38) 1 ∧ ArrR τ' (x + 38) b' := by
    intro k
    induction k with
    | zero =>
      intro n m s v hi hn hm hv
      obtain ⟨n, rfl⟩ : ∃ p0, n = p0 + 1 := ⟨n - 1, by omega⟩
      obtain ⟨m, rfl⟩ : ∃ p0, m = p0 + 1 := ⟨m - 1, by omega⟩
      refine ⟨nI v, fun σ B' fr hd => ?_, fun τ b mo A Bb O => ?_⟩
      · have F := (H.fr (fun j hj => fr (x + 1 + j) (by omega))).f h8
        rw [fX2_mostStopped_4, F.2.1.1, Option.bind_some, fa_lit 1, fa_lit 31, shl_1 _ h8, if_pos (nI_le (by omega) (by omega))]
        exact ⟨σ, B', rfl, fr, hd⟩
      · have G := A.f h8
        rw [fX10_hidden_4, O.s, Option.bind_some, fa_lit 0, G.1 0 (by omega), Option.bind_some, fa_lit 1, fa_lit 31, shl_1 _ h8, if_pos (nI_le (by omega) (by omega))]
        exact ⟨τ, b, rfl, Fr.rf, Bb⟩
    | succ k ih =>
      intro n m s v hi hn hm hv
      obtain ⟨n, rfl⟩ : ∃ p0, n = p0 + 1 := ⟨n - 1, by omega⟩
      obtain ⟨m, rfl⟩ : ∃ p0, m = p0 + 1 := ⟨m - 1, by omega⟩
      have hs : s < 2 ^ r 0 := by omega
      have hb := bc_le s
      have ok2 := ok.st s
      have bt2 : BitsR (sdR r s) s := BitsR.st hs
      -- the class' step, at any picture
      have X : ∀ σ B', Fr ρ σ (x + 13) 6 → HouseR σ (x + 13) r B' → ∃ σ1, Fr ρ σ1 (x + 13) 6 ∧ HouseR σ1 (x + 13) r s ∧ (bc s ≤ v → fX2_mostStopped_4 (n + 1) σ (x + 1) (x + 13) (nI v) (nI s) = fX2_mostStopped_4 n σ1 (x + 1) (x + 13) (nI v) (nI (s + 1))) ∧ (v < bc s → DkB r (sdR r s) → fX2_mostStopped_4 (n + 1) σ (x + 1) (x + 13) (nI v) (nI s) = fX2_mostStopped_4 n σ1 (x + 1) (x + 13) (nI v) (nI (s + 1))) ∧ (v < bc s → ¬ DkB r (sdR r s) → fX2_mostStopped_4 (n + 1) σ (x + 1) (x + 13) (nI v) (nI s) = fX2_mostStopped_4 n σ1 (x + 1) (x + 13) (nI (bc s)) (nI (s + 1))) := by
        intro σ B' fr hd
        have F := (H.fr (fun j hj => fr (x + 1 + j) (by omega))).f h8
        obtain ⟨σ1, e1, e2, e3⟩ := hd.ptB s
        have fr1 := fr.tr e2
        have F1 := (H.fr (fun j hj => fr1 (x + 1 + j) (by omega))).f h8
        have F2 := (e3.st s).f ok2.1.1
        obtain ⟨d1, d2⟩ := x_darker F1 bt ok F2 bt2 ok2
        have st : fX2_mostStopped_4 (n + 1) σ (x + 1) (x + 13) (nI v) (nI s) = if bc s ≤ v then fX2_mostStopped_4 n σ1 (x + 1) (x + 13) (nI v) (nI (s + 1)) else (fX2_isDarkerAnywhere σ1 (x + 1) (x + 13)).bind fun x6 => if x6 = nI 0 then fX2_mostStopped_4 n σ1 (x + 1) (x + 13) (nI (bc s)) (nI (s + 1)) else fX2_mostStopped_4 n σ1 (x + 1) (x + 13) (nI v) (nI (s + 1)) := by
          rw [fX2_mostStopped_4, F.2.1.1, Option.bind_some, fa_lit 1, fa_lit 31, shl_1 _ h8, if_neg (nI_ge hs (by omega)), e1, Option.bind_some, x_bits σ1 (show s < 256 by omega), Option.bind_some]
          simp (disch := omega) only [Option.bind_some, fa_lit, nI_add, pk_mul, nI_leI, nI_ltI, nI_eq, nb_0, nb_1, if_true, if_false, fX2_mostStopped_42]
        refine ⟨σ1, fr1, e3, fun q => by rw [st, if_pos q], fun q q2 => ?_, fun q q2 => ?_⟩
        · rw [st, if_neg (by omega), d1 q2, Option.bind_some, if_neg n10b]
        · rw [st, if_neg (by omega), d2 q2, Option.bind_some, if_pos rfl]
      have Y : ∀ τ b mo, ArrR τ (x + 37) r → ArrR τ (x + 38) b → MO τ x mo → ∃ τ1 b1, (Fr τ τ1 (x + 38) 1 ∧ ArrR τ1 (x + 38) b1 ∧ (v < bc s → DkB r (sdR r s) → fX10_hidden_4 (m + 1) τ (x + 36) (nI v) (nI s) = fX10_hidden_4 m τ1 (x + 36) (nI v) (nI (s + 1))) ∧ (v < bc s → ¬ DkB r (sdR r s) → fX10_hidden_4 (m + 1) τ (x + 36) (nI v) (nI s) = fX10_hidden_4 m τ1 (x + 36) (nI (bc s)) (nI (s + 1)))) ∧ (bc s ≤ v → fX10_hidden_4 (m + 1) τ (x + 36) (nI v) (nI s) = fX10_hidden_4 m τ (x + 36) (nI v) (nI (s + 1))) := by
        intro τ b mo A Bb O
        have G := A.f h8
        obtain ⟨σ1, σ2, c1, c2, c3, c4, c5⟩ := m_mind A Bb (by omega) h8 (show s < 256 by omega)
        have O3 : MO σ1 x mo := (c2 (x + 36) (by omega)).trans O
        have O4 : MO σ2 x mo := (c4 (x + 36) (by omega)).trans O
        have A4 : ArrR σ2 (x + 37) r := A.fr (c4 (x + 37) (by omega))
        obtain ⟨d1, d2⟩ := m_noDarker O4.s O4.m (A4.f h8) ok (c5.f ok2.1.1) ok2
        have st : fX10_hidden_4 (m + 1) τ (x + 36) (nI v) (nI s) = if v < bc s then (fX10_isNoDarker σ2 (x + 36)).bind fun x12 => if x12 = nI 0 then fX10_hidden_4 m σ2 (x + 36) (nI v) (nI (s + 1)) else fX10_hidden_4 m σ2 (x + 36) (nI (bc s)) (nI (s + 1)) else fX10_hidden_4 m τ (x + 36) (nI v) (nI (s + 1)) := by
          rw [fX10_hidden_4, O.s, Option.bind_some, fa_lit 0, G.1 0 (by omega), Option.bind_some, fa_lit 1, fa_lit 31, shl_1 _ h8, if_neg (nI_ge hs (by omega)), m_bits τ (show s < 256 by omega), Option.bind_some]
          simp (disch := omega) only [Option.bind_some, fa_lit, nI_add, pk_mul, nI_leI, nI_ltI, nI_eq, nb_0, nb_1, if_true, if_false, O.m, c1, O3.m, c3, ckO_at O4, m_bits σ2 (show s < 256 by omega), fX10_hidden_58]
        refine ⟨σ2, _, ⟨c4, c5, fun q q2 => ?_, fun q q2 => ?_⟩, fun q => ?_⟩
        · rw [st, if_pos q, d1 q2, Option.bind_some, if_pos rfl]
        · rw [st, if_pos q, d2 q2, Option.bind_some, if_neg n10b]
        · rw [st, if_neg (by omega)]
      have fin : ∀ v', v' ≤ 8 → (∀ σ B', Fr ρ σ (x + 13) 6 → HouseR σ (x + 13) r B' → ∃ σ1, Fr ρ σ1 (x + 13) 6 ∧ HouseR σ1 (x + 13) r s ∧ fX2_mostStopped_4 (n + 1) σ (x + 1) (x + 13) (nI v) (nI s) = fX2_mostStopped_4 n σ1 (x + 1) (x + 13) (nI v') (nI (s + 1))) → (∀ τ b mo, ArrR τ (x + 37) r → ArrR τ (x + 38) b → MO τ x mo → ∃ τ1 b1, Fr τ τ1 (x + 38) 1 ∧ ArrR τ1 (x + 38) b1 ∧ fX10_hidden_4 (m + 1) τ (x + 36) (nI v) (nI s) = fX10_hidden_4 m τ1 (x + 36) (nI v') (nI (s + 1))) → ∃ V : Int32, (∀ σ B', Fr ρ σ (x + 13) 6 → HouseR σ (x + 13) r B' → ∃ ρ' B'', fX2_mostStopped_4 (n + 1) σ (x + 1) (x + 13) (nI v) (nI s) = some (V, ρ') ∧ Fr ρ ρ' (x + 13) 6 ∧ HouseR ρ' (x + 13) r B'') ∧ ∀ τ b mo, ArrR τ (x + 37) r → ArrR τ (x + 38) b → MO τ x mo → ∃ τ' b', fX10_hidden_4 (m + 1) τ (x + 36) (nI v) (nI s) = some (V, τ') ∧ Fr τ τ' (x + 38) 1 ∧ ArrR τ' (x + 38) b' := by
        intro v' hv' hx hm
        obtain ⟨V, V1, V2⟩ := ih n m (s + 1) v' (by omega) (by omega) (by omega) hv'
        refine ⟨V, fun σ B' fr hd => ?_, fun τ b mo A Bb O => ?_⟩
        · obtain ⟨σ1, p1, p2, p3⟩ := hx σ B' fr hd
          rw [p3]
          exact V1 σ1 s p1 p2
        · obtain ⟨τ1, b1, p1, p2, p3⟩ := hm τ b mo A Bb O
          rw [p3]
          obtain ⟨τ', b', w1, w2, w3⟩ := V2 τ1 b1 mo (A.fr (p1 (x + 37) (by omega))) p2 ((p1 (x + 36) (by omega)).trans O)
          exact ⟨τ', b', w1, p1.tr w2, w3⟩
      by_cases c1 : v < bc s
      · by_cases c2 : DkB r (sdR r s)
        · exact fin v hv (fun σ B' fr hd => by obtain ⟨σ1, p1, p2, p3, p4, p5⟩ := X σ B' fr hd; exact ⟨σ1, p1, p2, p4 c1 c2⟩) (fun τ b mo A Bb O => by obtain ⟨τ1, b1, ⟨p1, p2, p3, p4⟩, p5⟩ := Y τ b mo A Bb O; exact ⟨τ1, b1, p1, p2, p3 c1 c2⟩)
        · exact fin (bc s) hb (fun σ B' fr hd => by obtain ⟨σ1, p1, p2, p3, p4, p5⟩ := X σ B' fr hd; exact ⟨σ1, p1, p2, p5 c1 c2⟩) (fun τ b mo A Bb O => by obtain ⟨τ1, b1, ⟨p1, p2, p3, p4⟩, p5⟩ := Y τ b mo A Bb O; exact ⟨τ1, b1, p1, p2, p4 c1 c2⟩)
      · exact fin v hv (fun σ B' fr hd => by obtain ⟨σ1, p1, p2, p3, p4, p5⟩ := X σ B' fr hd; exact ⟨σ1, p1, p2, p3 (by omega)⟩) (fun τ b mo A Bb O => by obtain ⟨τ1, b1, ⟨p1, p2, p3, p4⟩, p5⟩ := Y τ b mo A Bb O; exact ⟨τ, b, Fr.rf, Bb, p5 (by omega)⟩)
  obtain ⟨V, V1, V2⟩ := key (2 ^ r 0) FU FU 0 0 (by omega) (FU_gt (by omega)) (FU_gt (by omega)) (by omega)
  exact ⟨V, V1 ρ B' Fr.rf D, V2⟩
theorem sim_hidden : Sim_hidden Rel := by
  intro ρ z0 x q o  hR hf
  obtain ⟨z, h, n, i, d, sf, se, mo, a, b, g, w, u, t, sk, sm, ⟨hx, hq, ho⟩, I, gd, sh⟩ := id hR
  subst hq ho
  subst hx
  obtain ⟨⟨g1, g2⟩, ⟨ea, ok, bt⟩, gi⟩ := id gd
  have hA : ArrR ρ (x + 37) n.1 := ea ▸ I.A
  have F := I.N.f ok.1.1
  have G := hA.f ok.1.1
  have X1 : gR ρ 2 x 0 = some (x + 1) := gR_at I.X rfl
  have M0 : ckO ρ 3 (x + 36) = some () := ckO_at I.O
  have M1 : gR ρ 3 (x + 36) 0 = some (x + 37) := gR_at I.O rfl
  obtain ⟨ρ1, e1, e2, e3⟩ := x_become I.N I.D (by omega) ok.1.1
  have I1 := I.uD (d' := n) (fun j hj hc => e2 (x + j) (by omega)) e3
  obtain ⟨V, ⟨ρ2, B2, c1, c2, c3⟩, hm⟩ := s_hidden (τ := ρ) (b := b) (mo := mo) I1.N bt ok I1.D
  have I2 := I1.uD (d' := (n.1, B2)) (fun j hj hc => c2 (x + j) (by omega)) c3
  obtain ⟨ρ3, b3, m1, m2, m3⟩ := hm ρ2 b mo (ea ▸ I2.A) I2.B I2.O
  refine ⟨(), V, ρ2, (), ρ3, ckO_at I.X, ?_, ckO_at I2.O, m1, x, h, n, i, (n.1, B2), sf, se, mo, a, b3, g, w, u, t, sk, sm, ⟨rfl, rfl, rfl⟩, I2.uB (fun j hj hc => m2 (x + j) (by omega)) m3, gd, sh⟩
  unfold fX9_hidden
  simp only [Option.bind_some, n10, if_false, I.X.n2, I.X.n0, (I.D.f0).1, e1, I1.X.n0, I1.X.n2, c1]
