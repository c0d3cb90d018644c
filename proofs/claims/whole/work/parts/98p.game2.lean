/-! PURE: the game, the reference's side. -/
def GS (σ : Rho) (x : Nat) (mo : Nat → Int32) (r : Nat → Nat) (s : Nat) : Prop := MO σ x mo ∧ ArrR σ (x + 37) r ∧ ArrR σ (x + 38) (sdR r s)
def Fg (σ σ' : Rho) (x : Nat) : Prop := ∀ y, y ≠ x + 36 → y ≠ x + 38 → σ' y = σ y
theorem Fg.tr {σ σ' σ'' : Rho} {x : Nat} (h : Fg σ σ' x) (g : Fg σ' σ'' x) : Fg σ σ'' x := fun y h1 h2 => (g y h1 h2).trans (h y h1 h2)
theorem Fg.o {σ σ' : Rho} {x : Nat} (h : Fr σ σ' (x + 36) 1) : Fg σ σ' x := fun y h1 _ => h y (by omega)
theorem Fg.b {σ σ' : Rho} {x : Nat} (h : Fr σ σ' (x + 38) 1) : Fg σ σ' x := fun y _ h2 => h y (by omega)
theorem gF_some {L : Nat} {f : Nat → Nat} : ∀ n w, w < n → L / 2 ^ w % 2 = 0 → ∃ m j, gF L f n = some (m, j) := by
  intro n
  induction n with
  | zero => intro w hw; omega
  | succ n ih =>
    intro w hw c
    rw [gF]
    by_cases c2 : L / 2 ^ n % 2 = 0
    · rw [if_pos c2]
      cases e : gF L f n with
      | none => exact ⟨_, _, rfl⟩
      | some mj =>
        obtain ⟨m, j⟩ := mj
        show ∃ m' j', (if m < f n then _ else _) = some (m', j')
        by_cases c3 : m < f n
        · rw [if_pos c3]; exact ⟨_, _, rfl⟩
        · rw [if_neg c3]; exact ⟨_, _, rfl⟩
    · rw [if_neg c2]
      exact ih w (by
        by_cases e : w = n
        · subst e; exact absurd c c2
        · omega) c
theorem gF_le {L b : Nat} {f : Nat → Nat} (h : ∀ i, f i ≤ b) {n m j : Nat} (e : gF L f n = some (m, j)) : m ≤ b := by
  have := gV_le (L := L) h n
  rw [e] at this
  exact this
section
variable {x : Nat} {r : Nat → Nat}
theorem GS.st {σ : Rho} {mo : Nat → Int32} {s w : Nat} (ok : OKr r) (G : GS σ x mo r s) (hs : s < 256) (hw : w < r 0) (c : s / 2 ^ w % 2 = 0) : ∃ σ', stI σ (x + 38) (nI (9 + 5 * w + 4)) (nI 1) = some σ' ∧ Fg σ σ' x ∧ GS σ' x mo r (s + 2 ^ w) := by
  obtain ⟨g1, g2, g3⟩ := G
  have h8 := ok.1.1
  obtain ⟨σ', e1, e2, e3⟩ := g3.set (j := 9 + 5 * w + 4) (by omega) (by omega) 1
  refine ⟨σ', e1, Fg.b e2, (e2 _ (by omega)).trans g1, ArrR.fr (e2 _ (by omega)) g2, e3.cg (fun j hj => by rw [setE_n (by omega), sdR_n _ _ (by omega), sdR_n _ _ (by omega)]) (fun v hv i hi => ?_)⟩
  rw [setE_n (by omega), sdR_n _ _ (by omega)] at hv
  by_cases ci : i = 4
  · subst ci
    rw [sdR_4, (bit_add s hs w (by omega) c).2.2 v (by omega)]
    by_cases cv : v = w
    · subst cv
      rw [if_pos rfl, setE_s]
    · rw [if_neg cv, setE_n (by omega), sdR_4]
  · rw [sdR_n _ _ (by omega), setE_n (by omega), sdR_n _ _ (by omega)]
theorem GS.un {σ : Rho} {mo : Nat → Int32} {s w : Nat} (ok : OKr r) (G : GS σ x mo r (s + 2 ^ w)) (hs : s < 256) (hw : w < r 0) (c : s / 2 ^ w % 2 = 0) : ∃ σ', stI σ (x + 38) (nI (9 + 5 * w + 4)) (nI 0) = some σ' ∧ Fg σ σ' x ∧ GS σ' x mo r s := by
  obtain ⟨g1, g2, g3⟩ := G
  have h8 := ok.1.1
  obtain ⟨σ', e1, e2, e3⟩ := g3.set (j := 9 + 5 * w + 4) (by omega) (by omega) 0
  refine ⟨σ', e1, Fg.b e2, (e2 _ (by omega)).trans g1, ArrR.fr (e2 _ (by omega)) g2, e3.cg (fun j hj => by rw [setE_n (by omega), sdR_n _ _ (by omega), sdR_n _ _ (by omega)]) (fun v hv i hi => ?_)⟩
  rw [setE_n (by omega), sdR_n _ _ (by omega)] at hv
  by_cases ci : i = 4
  · subst ci
    rw [sdR_4]
    by_cases cv : v = w
    · subst cv
      rw [setE_s, c]
    · rw [setE_n (by omega), sdR_4, (bit_add s hs w (by omega) c).2.2 v (by omega), if_neg cv]
  · rw [sdR_n _ _ (by omega), setE_n (by omega), sdR_n _ _ (by omega)]
def AIH (x : Nat) (r : Nat → Nat) (k d : Nat) : Prop := ∀ σ s L mo, s < 2 ^ r 0 → L < 16 → bc L + k ≤ 4 → GS σ x mo r s → ∃ σ' mo', fX10_assessed_d d σ (x + 36) (nI k) (nI L) = some (nI (gA r k s L), σ') ∧ GS σ' x mo' r s ∧ Fg σ σ' x ∧ (∀ j, j ≠ 4 → mo' j = mo j) ∧ (∀ k', k = k' + 1 → mo' 4 = gI4 (gF L (gTerm r k' s L) 4))
theorem m_answered (ok : OKr r) {k d : Nat} (ih : AIH x r k d) (hk : k ≤ 3) {σ : Rho} {s L : Nat} {mo : Nat → Int32} (hs : s < 2 ^ r 0) (hL : L < 16) (hb : bc L + k ≤ 4) (G : GS σ x mo r s) : ∃ σ' mo', FX10_answered σ (fX10_assessed_d d) (x + 36) (nI k) (nI L) = some (nI (gS (r 0) (gA r k) s L), σ') ∧ GS σ' x mo' r s ∧ Fg σ σ' x ∧ (∀ j, j ≠ 4 → mo' j = mo j) := by
  have h8 := ok.1.1
  have hp : 2 ^ r 0 ≤ 256 := Nat.pow_le_pow_right (by omega) h8
  have hg := gA_le ok k
  obtain ⟨σ0, mo0, e0, G0, f0, m0, -⟩ := ih σ s L mo hs hL hb G
  rw [FX10_answered, ckO_at G.1, Option.bind_some, e0, Option.bind_some]
  have key : ∀ j n w σ1 mo1, w + j = r 0 → j < n → GS σ1 x mo1 r s → Fg σ σ1 x → (∀ j, j ≠ 4 → mo1 j = mo j) → ∃ σ' mo', FX10_answered_10 (fX10_assessed_d d) n σ1 (x + 36) (nI k) (nI L) (nI (gM s (gA r k s L) (fun w => gA r k (s + 2 ^ w) L) w)) (nI w) = some (nI (gS (r 0) (gA r k) s L), σ') ∧ GS σ' x mo' r s ∧ Fg σ σ' x ∧ (∀ j, j ≠ 4 → mo' j = mo j) := by
    intro j
    induction j with
    | zero =>
      intro n w σ1 mo1 hw hn G1 f1 m1
      obtain ⟨n, rfl⟩ : ∃ p0, n = p0 + 1 := ⟨n - 1, by omega⟩
      obtain rfl : w = r 0 := by omega
      have L0 : ldI σ1 (x + 37) 0 = some (nI (r 0)) := (G1.2.1.f h8).1 0 (by omega)
      rw [FX10_answered_10, G1.1.s, Option.bind_some, L0, Option.bind_some, if_pos (nI_le (Nat.le_refl _) (by omega))]
      exact ⟨σ1, mo1, rfl, G1, f1, m1⟩
    | succ j jh =>
      intro n w σ1 mo1 hw hn G1 f1 m1
      obtain ⟨n, rfl⟩ : ∃ p0, n = p0 + 1 := ⟨n - 1, by omega⟩
      have hlt : w < r 0 := by omega
      have L0 : ldI σ1 (x + 37) 0 = some (nI (r 0)) := (G1.2.1.f h8).1 0 (by omega)
      rw [FX10_answered_10, G1.1.s, Option.bind_some, L0, Option.bind_some, if_neg (nI_ge hlt (by omega))]
      rcases (show k = 0 ∨ 0 < k by omega) with c0 | c0
      · subst c0
        rw [if_pos (show nI 0 ≤ 0 by decide)]
        refine ⟨σ1, mo1, ?_, G1, f1, m1⟩
        unfold gS
        rw [show gM s (gA r 0 s L) (fun w => gA r 0 (s + 2 ^ w) L) (r 0) = 0 from gM_0 (fun _ => rfl) _, show gM s (gA r 0 s L) (fun w => gA r 0 (s + 2 ^ w) L) w = 0 from gM_0 (fun _ => rfl) _]
      · have okS := ok.st s
        have r0S : sdR r s 0 = r 0 := sdR_n _ _ (by omega)
        have FB := G1.2.2.f (by rw [r0S]; exact h8)
        rw [if_neg (show ¬ nI k ≤ 0 from nI_ge (a := 0) c0 (by omega)), G1.1.m, Option.bind_some, m_isOpen FB okS (show w < sdR r s 0 by rw [r0S]; exact hlt), Option.bind_some, sdR_4]
        by_cases cs : s / 2 ^ w % 2 = 0
        · obtain ⟨σ2, e2, f2, G2⟩ := G1.st ok (by omega) hlt cs
          obtain ⟨σ3, mo3, e3, G3, f3, m3, -⟩ := ih σ2 (s + 2 ^ w) L mo1 (bit_N hs h8 hlt cs) hL hb G2
          obtain ⟨σ4, e4, f4, G4⟩ := G3.un ok (by omega) hlt cs
          have g1 := hg (s + 2 ^ w) L
          have g2 : gM s (gA r k s L) (fun w => gA r k (s + 2 ^ w) L) w ≤ 80 * k := gM_le (hg s _) _
          obtain ⟨σ', mo', e, q⟩ := jh n (w + 1) σ4 mo3 (by omega) (by omega) G4 (((f1.tr f2).tr f3).tr f4) (fun j hj => (m3 j hj).trans (m1 j hj))
          refine ⟨σ', mo', ?_, q⟩
          rw [gM, if_pos cs] at e
          have e2' : stI σ1 (x + 38) (nI (9 + 5 * w + 4)) 1 = some σ2 := e2
          have e4' : stI σ3 (x + 38) (nI (9 + 5 * w + 4)) 0 = some σ4 := e4
          rw [cs, if_neg (show ¬ nI (1 - 0) = 0 from n10), Option.bind_some, show fX10_of σ1 (nI w) 4 = some (nI (9 + 5 * w + 4)) from m_of σ1 w 4, Option.bind_some, e2', Option.bind_some, ckO_at G2.1, Option.bind_some, e3, Option.bind_some]
          have le : fX10_least σ3 (nI (gM s (gA r k s L) (fun w => gA r k (s + 2 ^ w) L) w)) (nI (gA r k (s + 2 ^ w) L)) = some (nI (if gA r k (s + 2 ^ w) L < gM s (gA r k s L) (fun w => gA r k (s + 2 ^ w) L) w then gA r k (s + 2 ^ w) L else gM s (gA r k s L) (fun w => gA r k (s + 2 ^ w) L) w)) := by
            unfold fX10_least
            by_cases q : gA r k (s + 2 ^ w) L < gM s (gA r k s L) (fun w => gA r k (s + 2 ^ w) L) w
            · rw [if_pos (nI_le (Nat.le_of_lt q) (by omega)), if_pos q]
            · rw [if_neg q]
              by_cases q2 : gA r k (s + 2 ^ w) L = gM s (gA r k s L) (fun w => gA r k (s + 2 ^ w) L) w
              · rw [q2, if_pos (nI_le (Nat.le_refl _) (by omega))]
              · rw [if_neg (nI_ge (by omega) (by omega))]
          dsimp only
          rw [le, Option.bind_some, G3.1.m, Option.bind_some, show fX10_of σ3 (nI w) 4 = some (nI (9 + 5 * w + 4)) from m_of σ3 w 4, Option.bind_some, e4', Option.bind_some, FX10_answered_75, nI_1]
          exact e
        · obtain ⟨σ', mo', e, q⟩ := jh n (w + 1) σ1 mo1 (by omega) (by omega) G1 f1 m1
          refine ⟨σ', mo', ?_, q⟩
          rw [gM, if_neg cs] at e
          rw [show s / 2 ^ w % 2 = 1 by omega, if_pos (show nI (1 - 1) = 0 from rfl), FX10_answered_75, nI_1]
          exact e
  exact key (r 0) FU 0 σ0 mo0 (by omega) (FU_gt (by omega)) G0 f0 m0
theorem gV1_lt {o : Option (Nat × Nat)} {t : Nat} (ho : ∀ m j, o = some (m, j) → m < 2 ^ 30) (ht : t < 2 ^ 30) : (gV1 o < nI t) = (match o with | none => True | some (m, _) => m < t) := by
  cases o with
  | none => exact eq_true (by
      show (-1 : Int32) < nI t
      rw [Int32.lt_iff_toInt_lt, nI_toInt (by omega)]
      have : (-1 : Int32).toInt = -1 := by decide
      omega)
  | some mj =>
    obtain ⟨m, j⟩ := mj
    have := ho m j rfl
    exact propext (nI_ltI (a := m) (b := t) (by omega) (by omega))
theorem a_d (d : Nat) (ρ : Rho) (v0 : Nat) (v1 v2 : Int32) : fX10_assessed_d (d + 1) ρ v0 v1 v2 = FX10_assessed ρ (fun ρ w0 w1 w2 => FX10_answered ρ (fX10_assessed_d d) w0 w1 w2) v0 v1 v2 := rfl
theorem m_assessed (ok : OKr r) : ∀ k d, k ≤ 4 → k < d → AIH x r k d := by
  have h8 := ok.1.1
  have hp : 2 ^ r 0 ≤ 256 := Nat.pow_le_pow_right (by omega) h8
  intro k
  induction k with
  | zero =>
    intro d hk hd σ s L mo hs hL hb G
    obtain ⟨d, rfl⟩ : ∃ p0, d = p0 + 1 := ⟨d - 1, by omega⟩
    refine ⟨σ, mo, ?_, G, fun _ _ _ => rfl, fun _ _ => rfl, fun k' h => by omega⟩
    rw [a_d, FX10_assessed, if_pos (show nI 0 = 0 from rfl)]
    rfl
  | succ k ih =>
    intro d hk hd σ s L mo hs hL hb G
    obtain ⟨d, rfl⟩ : ∃ p0, d = p0 + 1 := ⟨d - 1, by omega⟩
    rw [a_d, FX10_assessed, if_neg (show ¬ nI (k + 1) = 0 from fun h => absurd ((nI_eq (a := k + 1) (b := 0) (by omega) (by omega)).mp h) (by omega))]
    have key : ∀ j n i σ1 mo1, i + j = 4 → j < n → GS σ1 x mo1 r s → Fg σ σ1 x → (∀ j, j ≠ 4 → mo1 j = mo j) → ∃ σ' mo', FX10_assessed_15 (fun ρ w0 w1 w2 => FX10_answered ρ (fX10_assessed_d d) w0 w1 w2) n σ1 (x + 36) (nI (k + 1)) (nI L) (gV1 (gF L (gTerm r k s L) i)) (gI4 (gF L (gTerm r k s L) i)) (nI i) = some (nI (gA r (k + 1) s L), σ') ∧ GS σ' x mo' r s ∧ Fg σ σ' x ∧ (∀ j, j ≠ 4 → mo' j = mo j) ∧ (∀ k', k + 1 = k' + 1 → mo' 4 = gI4 (gF L (gTerm r k' s L) 4)) := by
      intro j
      induction j with
      | zero =>
        intro n i σ1 mo1 hi hn G1 f1 m1
        obtain ⟨n, rfl⟩ : ∃ p0, n = p0 + 1 := ⟨n - 1, by omega⟩
        obtain rfl : i = 4 := by omega
        obtain ⟨σ2, e2, f2, G2⟩ := G1.1.pt (k := 10) (j := 4) (by omega) (gI4 (gF L (gTerm r k s L) 4))
        rw [FX10_assessed_15, if_pos (show (4 : Int32) ≤ nI 4 by decide), e2, Option.bind_some]
        obtain ⟨w, hw, hc⟩ := bc_fr L hL (by omega)
        obtain ⟨m, j, hF⟩ := gF_some (f := gTerm r k s L) 4 w hw hc
        refine ⟨σ2, _, ?_, ⟨G2, ArrR.fr (f2 _ (by omega)) G1.2.1, ArrR.fr (f2 _ (by omega)) G1.2.2⟩, f1.tr (Fg.o f2), fun j hj => ?_, fun k' hk' => ?_⟩
        · have : gA r (k + 1) s L = gV (gF L (gTerm r k s L) 4) := rfl
          rw [this, hF]
          rfl
        · rw [upd_if, if_neg hj]
          exact m1 j hj
        · obtain rfl : k' = k := by omega
          rw [upd_if, if_pos rfl]
      | succ j jh =>
        intro n i σ1 mo1 hi hn G1 f1 m1
        obtain ⟨n, rfl⟩ : ∃ p0, n = p0 + 1 := ⟨n - 1, by omega⟩
        rw [FX10_assessed_15, if_neg (show ¬ (4 : Int32) ≤ nI i from nI_ge (b := 4) (by omega) (by omega)), m_has, bit_has L (by omega) i (by omega), Option.bind_some]
        by_cases c : L / 2 ^ i % 2 = 0
        · have okS := ok.st s
          have r0S : sdR r s 0 = r 0 := sdR_n _ _ (by omega)
          have FB := G1.2.2.f (by rw [r0S]; exact h8)
          obtain ⟨c1, c2⟩ := bc_add L hL i (by omega) c
          obtain ⟨σ2, mo2, e2, G2, f2, m2⟩ := m_answered ok (ih d (by omega) (by omega)) (by omega) hs c2 (by omega) G1
          obtain ⟨σ', mo', e, q⟩ := jh n (i + 1) σ2 mo2 (by omega) (by omega) G2 (f1.tr f2) (fun j hj => (m2 j hj).trans (m1 j hj))
          refine ⟨σ', mo', ?_, q⟩
          have tb := gT_le ok k s L
          rw [c, if_pos (show nI 0 = 0 from rfl), G1.1.m, Option.bind_some, show (6 : Int32) * nI i = nI (6 * i) from pk_mul 6 i, m_movesDue FB okS (by omega), Option.bind_some, ckO_at G1.1, Option.bind_some, show nI (k + 1) - 1 = nI k from pk_sub (a := k + 1) (b := 1) (by omega), fa_lit 31, fa_lit 1, (bit_add L (by omega) i (by omega) c).1, e2, Option.bind_some, FX10_assessed_80, FX10_assessed_80]
          dsimp only
          rw [nI_add, nI_1, show mvD (sdR r s) (6 * i) + gS (r 0) (gA r k) s (L + 2 ^ i) = gTerm r k s L i from rfl]
          have t1 := tb i
          have lt := gV1_lt (o := gF L (gTerm r k s L) i) (t := gTerm r k s L i) (fun m j h => Nat.lt_of_le_of_lt (gF_le tb h) (by omega)) (by omega)
          have g : gF L (gTerm r k s L) (i + 1) = if gV1 (gF L (gTerm r k s L) i) < nI (gTerm r k s L i) then some (gTerm r k s L i, i) else gF L (gTerm r k s L) i := by
            rw [gF, if_pos c]
            cases eo : gF L (gTerm r k s L) i with
            | none =>
              rw [eo] at lt
              rw [if_pos (of_eq_true lt)]
            | some mj =>
              obtain ⟨m, j⟩ := mj
              rw [eo] at lt
              by_cases q : m < gTerm r k s L i
              · rw [if_pos (lt.mpr q)]
                exact if_pos q
              · rw [if_neg (fun h => q (lt.mp h))]
                exact if_neg q
          rw [g] at e
          by_cases q : gV1 (gF L (gTerm r k s L) i) < nI (gTerm r k s L i)
          · rw [if_pos q] at e
            rw [if_pos q]
            exact e
          · rw [if_neg q] at e
            rw [if_neg q]
            exact e
        · obtain ⟨σ', mo', e, q⟩ := jh n (i + 1) σ1 mo1 (by omega) (by omega) G1 f1 m1
          refine ⟨σ', mo', ?_, q⟩
          rw [gV_no c] at e
          rw [show L / 2 ^ i % 2 = 1 by omega, if_neg n10, FX10_assessed_80, nI_1]
          exact e
    exact key 4 FU 0 σ mo (by omega) (FU_gt (by omega)) G (fun _ _ _ => rfl) (fun _ _ => rfl)
end
theorem sim_game : Sim_game Rel := by
  intro ρ z0 x q o a1 a2 hR hf
  obtain ⟨z, h, n, i, d, sf, se, mo, a, b, g, w, u, t, sk, sm, ⟨hx, hq, ho⟩, I, gd, sh⟩ := id hR
  subst hq ho
  subst hx
  obtain ⟨⟨g1, g2⟩, ⟨ea, ok, bt⟩, gi⟩ := id gd
  have hA : ArrR ρ (x + 37) n.1 := ea ▸ I.A
  have F := I.N.f ok.1.1
  have G := hA.f ok.1.1
  have X1 : gR ρ 2 x 0 = some (x + 1) := gR_at I.X rfl
  have M0 : ckO ρ 3 (x + 36) = some () := ckO_at I.O
  have M1 : gR ρ 3 (x + 36) 0 = some (x + 37) := gR_at I.O rfl
  have h8 := ok.1.1
  unfold fX9_game fX10_game
  have keep : ∀ (v : Int32) (fx : Option Int32) (fm : Option (Int32 × Rho)), fx = some v → fm = some (v, ρ) → ∃ (ux : Unit) (r : Int32) (um : Unit) (ρ2 : Rho), ckO ρ 2 x = some ux ∧ fx = some r ∧ ckO ρ 3 (x + 36) = some um ∧ fm = some (r, ρ2) ∧ Rel ρ2 x (x + 36) (x + 49) := fun v fx fm h1 h2 => ⟨(), v, (), ρ, ckO_at I.X, h1, ckO_at I.O, h2, hR⟩
  rcases or_assoc.mpr (rng a1 (lo := 0) (hi := 4) (by omega) (by omega)) with c | ⟨k, -, hk, rfl⟩
  · refine keep (-1) _ _ ?_ ?_
    · rw [show fX0_isWithin ρ a1 0 4 = some (nI 0) from x_within_out ρ c, Option.bind_some, if_pos (of_eq_true z00)]
    · rw [show fX10_isIn ρ a1 0 4 = some (nI 0) from m_isIn_out ρ c, Option.bind_some, if_pos (of_eq_true z00)]
  rw [show fX0_isWithin ρ (nI k) 0 4 = some (nI 1) from x_within_in ρ (lo := 0) (hi := 4) (by omega) hk (by omega), show fX10_isIn ρ (nI k) 0 4 = some (nI 1) from m_isIn_in ρ (lo := 0) (hi := 4) (by omega) hk (by omega), Option.bind_some, Option.bind_some, if_neg n10, if_neg n10]
  rcases or_assoc.mpr (rng a2 (lo := 0) (hi := 1) (by omega) (by omega)) with c | ⟨p, -, hp, rfl⟩
  · refine keep (-1) _ _ ?_ ?_
    · rw [x_z1_out ρ c, Option.bind_some, if_pos (of_eq_true z00)]
    · rw [show fX10_isIn ρ a2 0 1 = some (nI 0) from m_isIn_out ρ c, Option.bind_some, if_pos (of_eq_true z00)]
  rw [x_z1_in ρ hp, show fX10_isIn ρ (nI p) 0 1 = some (nI 1) from m_z1_in ρ hp, Option.bind_some, Option.bind_some, if_neg n10, if_neg n10]
  obtain ⟨σ1, e1, f1, B1⟩ := m_copies hA h8 I.B (by omega)
  have O1 : MO σ1 x mo := (f1 (x + 36) (by omega)).trans I.O
  obtain ⟨σ2, e2, f2, O2⟩ := O1.pt (k := 10) (j := 4) (by omega) (-4)
  have G2 : GS σ2 x (upd mo 4 (-4)) n.1 n.2 := ⟨O2, ArrR.fr ((f2 _ (by omega)).trans (f1 _ (by omega))) hA, ArrR.cg (ArrR.fr (f2 _ (by omega)) B1) (fun j hj => by rw [sdR_n _ _ (by omega)]) (fun w hw i hi => by
    by_cases c : i = 4
    · subst c
      rw [sdR_4, bt.2 w hw]
    · rw [sdR_n _ _ (by omega)])⟩
  obtain ⟨σ3, mo3, e3, G3, f3, m3, m4⟩ := m_assessed (x := x) ok k 6 hk (by omega) σ2 n.2 0 _ bt.1 (by omega) (by rw [show bc 0 = 0 by decide]; omega) G2
  have fg : Fg ρ σ3 x := ((Fg.b f1).tr (Fg.o f2)).tr f3
  have mo0 : mo3 0 = mo 0 := by
    rw [m3 0 (by omega), upd_if, if_neg (by omega)]
  have rel : Rel σ3 x (x + 36) (x + 49) := by
    have I1 : Inv x h n i d sf se mo3 a b g w u t sk sm (fun y => if y = x + 38 then ρ y else σ3 y) := I.uO (fun j hj hc => by
      show (if x + j = x + 38 then _ else _) = _
      by_cases q : x + j = x + 38
      · rw [if_pos q]
      · rw [if_neg q]
        exact fg _ (by omega) q) (by
      show (if x + 36 = x + 38 then _ else _) = _
      rw [if_neg (by omega)]
      exact G3.1)
    have I2 : Inv x h n i d sf se mo3 a (sdR n.1 n.2) g w u t sk sm σ3 := I1.uB (fun j hj hc => by
      show _ = if x + j = x + 38 then _ else _
      rw [if_neg (by omega)]) G3.2.2
    exact ⟨x, h, n, i, d, sf, se, mo3, a, _, g, w, u, t, sk, sm, ⟨rfl, rfl, rfl⟩, I2, ⟨⟨g1, mo0.trans g2⟩, ⟨ea, ok, bt⟩, gi⟩, sh⟩
  have su : Sup n.2 n.2 (n.1 0) := fun _ _ h => h
  have e2' : ptV σ1 3 (x + 36) 10 (.int (-4)) = some σ2 := e2
  have e3' : fX10_assessed σ2 (x + 36) (nI k) 0 = some (nI (gA n.1 k n.2 0), σ3) := e3
  refine ⟨(), if p = 0 then nI (gA n.1 k n.2 0) else (if k = 0 then -4 else mo3 4), (), σ3, ckO_at I.X, ?_, ckO_at I.O, ?_, rel⟩
  · rw [X1, Option.bind_some, Option.bind_some]
    rcases (show p = 0 ∨ p = 1 by omega) with rfl | rfl
    · rw [if_pos (show nI 0 = 0 from rfl), if_pos rfl]
      unfold fX5_mostDue fX5_gained
      rw [F.2.1.2.1, Option.bind_some, show fX5_gained_d 6 ρ (x + 1) 0 (nI n.2) (nI k) = _ from x_gained F bt ok k 6 n.2 0 hk (by omega) bt.1 su (by omega), Option.bind_some, Option.bind_some]
    · rw [if_neg n10, if_neg (by omega)]
      cases k with
      | zero =>
        rw [if_pos rfl]
        unfold fX5_firstHour
        rw [if_neg (show ¬ (0 : Int32) < nI 0 by decide), Option.bind_some]
      | succ k =>
        rw [if_neg (by omega), x_firstHour F bt ok (by omega), Option.bind_some, m4 k rfl]
  · rw [M1, Option.bind_some, I.O.m, Option.bind_some, e1, Option.bind_some, e2', Option.bind_some, ckO_at O2, Option.bind_some, e3', Option.bind_some]
    rcases (show p = 0 ∨ p = 1 by omega) with rfl | rfl
    · rw [if_pos (show nI 0 = 0 from rfl), if_pos rfl]
    · rw [if_neg n10]
      cases k with
      | zero => rw [if_pos (show nI 0 = 0 from rfl), if_neg (show ¬ (1 : Nat) = 0 by omega), if_pos rfl]
      | succ k =>
        rw [if_neg (show ¬ nI (k + 1) = 0 from fun h => absurd ((nI_eq (a := k + 1) (b := 0) (by omega) (by omega)).mp h) (by omega)), if_neg (show ¬ (1 : Nat) = 0 by omega), if_neg (show ¬ k + 1 = 0 by omega), show gI σ3 3 (x + 36) 10 = some (mo3 4) from gI_at G3.1 rfl, Option.bind_some]
