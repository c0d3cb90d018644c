/-! PURE: a house becomes another; what a window's turn, a need, an hour and the rest do to a house. -/
theorem cpS {ρ : Rho} {p t k : Nat} {f g : Nat → Int32} (hp : ρ p = some (iC k f)) (ht : ρ t = some (iC k g)) (hk : k < 2 ^ 31) : ∃ ρ', cpI ρ p (nI 0) t (nI 0) (nI k) = some ρ' ∧ Fr ρ ρ' t 1 ∧ ∃ g', ρ' t = some (iC k g') ∧ ∀ j, j < k → g' j = f j :=
  ⟨_, cpI_at hp ht hk, Fr.set (by omega) (by omega), _, rset_s, fun j hj => by rw [pk_cpy_in (by omega) (by omega)]; congr 1; omega⟩
theorem ptS {ρ : Rho} {a k : Nat} {fs : List Value} {v : Value} (h : ρ a = some (oC 0 fs)) (hk : k < fs.length) : ∃ ρ', ptV ρ 0 a k v = some ρ' ∧ Fr ρ ρ' a 1 ∧ ρ' a = some (oC 0 (fs.set k v)) :=
  ⟨_, ptV_at h hk, Fr.set (by omega) (by omega), rset_s⟩
theorem x_become {ρ : Rho} {p b B B0 : Nat} {r r0 : Nat → Nat} (h : HouseR ρ p r B) (g : HouseR ρ b r0 B0) (ne : p + 6 ≤ b ∨ b + 6 ≤ p) (h8 : r 0 ≤ 8) : ∃ ρ', fX0_become ρ b p = some ρ' ∧ Fr ρ ρ' b 6 ∧ HouseR ρ' b r B := by
  obtain ⟨f1, f2, f3, f4, f5, h0, ⟨h1, h2, h3, h4, h5⟩, hw, hi⟩ := h
  obtain ⟨g1, g2, g3, g4, g5, k0, ⟨k1, k2, k3, k4, k5⟩, -, -⟩ := g
  unfold fX0_become
  obtain ⟨ρ1, c1, e1, G1, t1, s1⟩ := cpS (ρ := ρ) (p := p + 1) (t := b + 1) (k := 8) (rfl.trans h1) (rfl.trans k1) (by omega)
  rw [gR_at (rfl.trans h0) rfl, Option.bind_some, gR_at (rfl.trans k0) rfl, Option.bind_some, show cpI ρ (p + 1) 0 (b + 1) 0 8 = _ from c1, Option.bind_some]
  obtain ⟨ρ2, c2, e2, G2, t2, s2⟩ := cpS (ρ := ρ1) (p := p + 2) (t := b + 2) (k := 8) ((e1 (p + 2) (by omega)).trans h2) ((e1 (b + 2) (by omega)).trans k2) (by omega)
  rw [gR_at ((e1 p (by omega)).trans h0) rfl, Option.bind_some, gR_at ((e1 b (by omega)).trans k0) rfl, Option.bind_some, show cpI ρ1 (p + 2) 0 (b + 2) 0 8 = _ from c2, Option.bind_some]
  obtain ⟨ρ3, c3, e3, G3, t3, s3⟩ := cpS (ρ := ρ2) (p := p + 3) (t := b + 3) (k := 8) (((e2 (p + 3) (by omega)).trans (e1 (p + 3) (by omega))).trans h3) (((e2 (b + 3) (by omega)).trans (e1 (b + 3) (by omega))).trans k3) (by omega)
  rw [gR_at (((e2 p (by omega)).trans (e1 p (by omega))).trans h0) rfl, Option.bind_some, gR_at (((e2 b (by omega)).trans (e1 b (by omega))).trans k0) rfl, Option.bind_some, show cpI ρ2 (p + 3) 0 (b + 3) 0 8 = _ from c3, Option.bind_some]
  obtain ⟨ρ4, c4, e4, G4, t4, s4⟩ := cpS (ρ := ρ3) (p := p + 4) (t := b + 4) (k := 8) (((e3 (p + 4) (by omega)).trans ((e2 (p + 4) (by omega)).trans (e1 (p + 4) (by omega)))).trans h4) (((e3 (b + 4) (by omega)).trans ((e2 (b + 4) (by omega)).trans (e1 (b + 4) (by omega)))).trans k4) (by omega)
  rw [gR_at (((e3 p (by omega)).trans ((e2 p (by omega)).trans (e1 p (by omega)))).trans h0) rfl, Option.bind_some, gR_at (((e3 b (by omega)).trans ((e2 b (by omega)).trans (e1 b (by omega)))).trans k0) rfl, Option.bind_some, show cpI ρ3 (p + 4) 0 (b + 4) 0 8 = _ from c4, Option.bind_some]
  obtain ⟨ρ5, c5, e5, G5, t5, s5⟩ := cpS (ρ := ρ4) (p := p + 5) (t := b + 5) (k := 4) (((e4 (p + 5) (by omega)).trans ((e3 (p + 5) (by omega)).trans ((e2 (p + 5) (by omega)).trans (e1 (p + 5) (by omega))))).trans h5) (((e4 (b + 5) (by omega)).trans ((e3 (b + 5) (by omega)).trans ((e2 (b + 5) (by omega)).trans (e1 (b + 5) (by omega))))).trans k5) (by omega)
  rw [gR_at (((e4 p (by omega)).trans ((e3 p (by omega)).trans ((e2 p (by omega)).trans (e1 p (by omega))))).trans h0) rfl, Option.bind_some, gR_at (((e4 b (by omega)).trans ((e3 b (by omega)).trans ((e2 b (by omega)).trans (e1 b (by omega))))).trans k0) rfl, Option.bind_some, show cpI ρ4 (p + 5) 0 (b + 5) 0 4 = _ from c5, Option.bind_some]
  obtain ⟨ρ6, c6, e6, t6⟩ := ptS (ρ := ρ5) (a := b) (k := 5) (v := .int (nI (r 0))) (((e5 b (by omega)).trans ((e4 b (by omega)).trans ((e3 b (by omega)).trans ((e2 b (by omega)).trans (e1 b (by omega)))))).trans k0) (by show _ < 11; omega)
  rw [gI_at (((e5 p (by omega)).trans ((e4 p (by omega)).trans ((e3 p (by omega)).trans ((e2 p (by omega)).trans (e1 p (by omega)))))).trans h0) rfl, Option.bind_some, c6, Option.bind_some]
  obtain ⟨ρ7, c7, e7, t7⟩ := ptS (ρ := ρ6) (a := b) (k := 6) (v := .int (nI B)) t6 (by show _ < 11; omega)
  rw [gI_at (((e6 p (by omega)).trans ((e5 p (by omega)).trans ((e4 p (by omega)).trans ((e3 p (by omega)).trans ((e2 p (by omega)).trans (e1 p (by omega))))))).trans h0) rfl, Option.bind_some, c7, Option.bind_some]
  obtain ⟨ρ8, c8, e8, t8⟩ := ptS (ρ := ρ7) (a := b) (k := 7) (v := .int (nI (r 1))) t7 (by show _ < 11; omega)
  rw [gI_at (((e7 p (by omega)).trans ((e6 p (by omega)).trans ((e5 p (by omega)).trans ((e4 p (by omega)).trans ((e3 p (by omega)).trans ((e2 p (by omega)).trans (e1 p (by omega)))))))).trans h0) rfl, Option.bind_some, c8, Option.bind_some]
  obtain ⟨ρ9, c9, e9, t9⟩ := ptS (ρ := ρ8) (a := b) (k := 8) (v := .int (nI (r 2))) t8 (by show _ < 11; omega)
  rw [gI_at (((e8 p (by omega)).trans ((e7 p (by omega)).trans ((e6 p (by omega)).trans ((e5 p (by omega)).trans ((e4 p (by omega)).trans ((e3 p (by omega)).trans ((e2 p (by omega)).trans (e1 p (by omega))))))))).trans h0) rfl, Option.bind_some, c9, Option.bind_some]
  obtain ⟨ρ10, c10, e10, t10⟩ := ptS (ρ := ρ9) (a := b) (k := 9) (v := .int (nI (r 3))) t9 (by show _ < 11; omega)
  rw [gI_at (((e9 p (by omega)).trans ((e8 p (by omega)).trans ((e7 p (by omega)).trans ((e6 p (by omega)).trans ((e5 p (by omega)).trans ((e4 p (by omega)).trans ((e3 p (by omega)).trans ((e2 p (by omega)).trans (e1 p (by omega)))))))))).trans h0) rfl, Option.bind_some, c10, Option.bind_some]
  obtain ⟨ρ11, c11, e11, t11⟩ := ptS (ρ := ρ10) (a := b) (k := 10) (v := .int (nI (r 4))) t10 (by show _ < 11; omega)
  rw [gI_at (((e10 p (by omega)).trans ((e9 p (by omega)).trans ((e8 p (by omega)).trans ((e7 p (by omega)).trans ((e6 p (by omega)).trans ((e5 p (by omega)).trans ((e4 p (by omega)).trans ((e3 p (by omega)).trans ((e2 p (by omega)).trans (e1 p (by omega))))))))))).trans h0) rfl, Option.bind_some, c11, Option.bind_some]
  refine ⟨ρ11, rfl, fun j hj => ((e11 j (by omega)).trans ((e10 j (by omega)).trans ((e9 j (by omega)).trans ((e8 j (by omega)).trans ((e7 j (by omega)).trans ((e6 j (by omega)).trans ((e5 j (by omega)).trans ((e4 j (by omega)).trans ((e3 j (by omega)).trans ((e2 j (by omega)).trans (e1 j (by omega)))))))))))), G1, G2, G3, G4, G5, t11, ⟨((e11 (b + 1) (by omega)).trans ((e10 (b + 1) (by omega)).trans ((e9 (b + 1) (by omega)).trans ((e8 (b + 1) (by omega)).trans ((e7 (b + 1) (by omega)).trans ((e6 (b + 1) (by omega)).trans ((e5 (b + 1) (by omega)).trans ((e4 (b + 1) (by omega)).trans ((e3 (b + 1) (by omega)).trans (e2 (b + 1) (by omega))))))))))).trans t1, ((e11 (b + 2) (by omega)).trans ((e10 (b + 2) (by omega)).trans ((e9 (b + 2) (by omega)).trans ((e8 (b + 2) (by omega)).trans ((e7 (b + 2) (by omega)).trans ((e6 (b + 2) (by omega)).trans ((e5 (b + 2) (by omega)).trans ((e4 (b + 2) (by omega)).trans (e3 (b + 2) (by omega)))))))))).trans t2, ((e11 (b + 3) (by omega)).trans ((e10 (b + 3) (by omega)).trans ((e9 (b + 3) (by omega)).trans ((e8 (b + 3) (by omega)).trans ((e7 (b + 3) (by omega)).trans ((e6 (b + 3) (by omega)).trans ((e5 (b + 3) (by omega)).trans (e4 (b + 3) (by omega))))))))).trans t3, ((e11 (b + 4) (by omega)).trans ((e10 (b + 4) (by omega)).trans ((e9 (b + 4) (by omega)).trans ((e8 (b + 4) (by omega)).trans ((e7 (b + 4) (by omega)).trans ((e6 (b + 4) (by omega)).trans (e5 (b + 4) (by omega)))))))).trans t4, ((e11 (b + 5) (by omega)).trans ((e10 (b + 5) (by omega)).trans ((e9 (b + 5) (by omega)).trans ((e8 (b + 5) (by omega)).trans ((e7 (b + 5) (by omega)).trans (e6 (b + 5) (by omega))))))).trans t5⟩, fun w hlt => ?_, fun i hlt => ?_⟩
  · rw [s1 w (by omega), s2 w (by omega), s3 w (by omega), s4 w (by omega)]
    exact hw w hlt
  · rw [s5 i hlt]
    exact hi i hlt
/-! the class' own changes, on a house at a -/
def addW (r : Nat → Nat) (k f room h : Nat) : Nat → Nat := fun j => if j = 0 then r 0 + 1 else if j = 9 + 5 * r 0 then k else if j = 9 + 5 * r 0 + 1 then f else if j = 9 + 5 * r 0 + 2 then room else if j = 9 + 5 * r 0 + 3 then h else if j = 9 + 5 * r 0 + 4 then 0 else r j
def trnR (r : Nat → Nat) (w : Nat) : Nat → Nat := setE r (9 + 5 * w + 4) (1 - r (9 + 5 * w + 4))
def trnB (B w : Nat) : Nat := if B / 2 ^ w % 2 = 1 then B - 2 ^ w else B + 2 ^ w
theorem bit_xor : ∀ B, B < 256 → ∀ w, w < 8 → nI B ^^^ (nI 1 <<< (nI w &&& nI 31)) = nI (trnB B w) := by decide +kernel
theorem trnB_lt : ∀ n, n ≤ 8 → ∀ B, B < 2 ^ n → ∀ w, w < n → trnB B w < 2 ^ n := by decide +kernel
theorem trnB_bit : ∀ B, B < 256 → ∀ w, w < 8 → ∀ v, v < 8 → trnB B w / 2 ^ v % 2 = if v = w then 1 - B / 2 ^ v % 2 else B / 2 ^ v % 2 := by decide +kernel
theorem BitsR.trn {r : Nat → Nat} {B w : Nat} (h : BitsR r B) (h8 : r 0 ≤ 8) (hw : w < r 0) : BitsR (trnR r w) (trnB B w) := by
  have hB := h.lt h8
  refine ⟨?_, fun v hv => ?_⟩
  · unfold trnR
    rw [setE_n (by omega)]
    exact trnB_lt _ h8 B h.1 w hw
  · unfold trnR at hv ⊢
    rw [setE_n (by omega)] at hv
    rw [trnB_bit B hB w (by omega) v (by omega)]
    by_cases c : v = w
    · rw [c, setE_s, if_pos rfl, h.2 w hw]
    · rw [setE_n (by omega), if_neg c, h.2 v hv]
theorem OKr.trn {r : Nat → Nat} {w : Nat} (ok : OKr r) (hw : w < r 0) : OKr (trnR r w) := by
  unfold trnR
  obtain ⟨o1, o2, o3⟩ := ok
  refine ⟨?_, fun i hi => ?_, fun v hv => ?_⟩
  · rw [setE_n (by omega), setE_n (by omega), setE_n (by omega), setE_n (by omega), setE_n (by omega)]
    exact o1
  · rw [setE_n (by omega)]
    exact o2 i hi
  · rw [setE_n (by omega)] at hv
    obtain ⟨q1, q2, q3, q4, q5⟩ := o3 v hv
    rw [setE_n (by omega), setE_n (by omega), setE_n (by omega), setE_n (by omega)]
    refine ⟨q1, q2, q3, q4, ?_⟩
    by_cases c : v = w
    · rw [c, setE_s]; omega
    · rw [setE_n (by omega)]; exact q5
section CH
variable {ρ : Rho} {a B : Nat} {r : Nat → Nat}
theorem x_turn (H : HouseR ρ a r B) (bt : BitsR r B) (ok : OKr r) {w : Nat} (hw : w < r 0) : ∃ ρ', fX0_turnStopped ρ a (nI w) = some (nI (trnR r w (9 + 5 * w + 4)), ρ') ∧ Fr ρ ρ' a 6 ∧ HouseR ρ' a (trnR r w) (trnB B w) := by
  have F := H.f ok.1.1
  obtain ⟨ρ', e1, e2, e3⟩ := H.ptB (trnB B w)
  have e4 : HouseR ρ' a (trnR r w) (trnB B w) := by
    obtain ⟨f1, f2, f3, f4, f5, h0, hh, hw1, hi⟩ := e3
    refine ⟨f1, f2, f3, f4, f5, ?_, hh, fun v hv => ?_, fun i hi1 => ?_⟩
    · unfold trnR
      rw [setE_n (by omega), setE_n (by omega), setE_n (by omega), setE_n (by omega), setE_n (by omega)]
      exact h0
    · unfold trnR at hv ⊢
      rw [setE_n (by omega)] at hv
      rw [setE_n (by omega), setE_n (by omega), setE_n (by omega), setE_n (by omega)]
      exact hw1 v hv
    · unfold trnR
      rw [setE_n (by omega)]
      exact hi i hi1
  have ok2 := ok.trn hw
  have F2 := e4.f ok2.1.1
  have bt2 := bt.trn ok.1.1 hw
  have hw2 : w < trnR r w 0 := by unfold trnR; rw [setE_n (by omega)]; exact hw
  refine ⟨ρ', ?_, e2, e4⟩
  unfold fX0_turnStopped
  have hb := bit_xor B (bt.lt ok.1.1) w (by have := ok.1.1; omega)
  simp only [Option.bind_some, n10, if_false, F.1.1, x_win_in F ok hw, F.2.1.2.1, fa_lit 1, fa_lit 31, hb, e1, F2.1.1, x_isStopped F2 bt2 ok2 hw2]
  have q := (ok2.2.2 w hw2).2.2.2.2
  rcases (show trnR r w (9 + 5 * w + 4) = 0 ∨ trnR r w (9 + 5 * w + 4) = 1 by omega) with e | e <;> rw [e] <;> rfl
theorem x_need (H : HouseR ρ a r B) (ok : OKr r) {room v : Nat} (hr : room < 4) (hv : v ≤ 20) : ∃ ρ', fX0_changeNeed ρ a (nI room) (nI v) = some (nI (r (5 + room)), ρ') ∧ Fr ρ ρ' a 6 ∧ HouseR ρ' a (setE r (5 + room) v) B := by
  have F := H.f ok.1.1
  obtain ⟨f1, f2, f3, f4, f5, h0, ⟨h1, h2, h3, h4, h5⟩, hw, hi⟩ := H
  refine ⟨rset ρ (a + 5) (iC 4 (upd f5 room (nI v))), ?_, Fr.set (by omega) (by omega), f1, f2, f3, f4, upd f5 room (nI v), ?_, ⟨?_, ?_, ?_, ?_, ?_⟩, fun w hlt => ?_, fun i hlt => ?_⟩
  · unfold fX0_changeNeed
    simp only [Option.bind_some, n10, if_false, x_room_in ρ hr, show fX0_isWithin ρ (nI v) 0 20 = some (nI 1) from x_within_in ρ (lo := 0) (hi := 20) (by omega) hv (by omega), F.1.2.2.2.2.2, F.2.2.2 room hr, stI_at h5 hr (by omega)]
  · rw [rset_n (by omega), setE_n (by omega), setE_n (by omega), setE_n (by omega), setE_n (by omega), setE_n (by omega)]; exact h0
  · rw [rset_n (by omega)]; exact h1
  · rw [rset_n (by omega)]; exact h2
  · rw [rset_n (by omega)]; exact h3
  · rw [rset_n (by omega)]; exact h4
  · rw [rset_s]
  · rw [setE_n (by omega)] at hlt
    rw [setE_n (by omega), setE_n (by omega), setE_n (by omega), setE_n (by omega)]
    exact hw w hlt
  · by_cases c : i = room
    · rw [c, pk_us, setE_s]
    · rw [pk_un c, setE_n (by omega)]; exact hi i hlt
theorem x_hourC (H : HouseR ρ a r B) (ok : OKr r) {v : Nat} (hv : v < 24) : ∃ ρ', fX0_changeHour ρ a (nI v) = some (nI (r 1), ρ') ∧ Fr ρ ρ' a 6 ∧ HouseR ρ' a (setE r 1 v) B := by
  have F := H.f ok.1.1
  obtain ⟨ρ', e1, e2, e3⟩ := H.pt (j := 1) (by omega) v
  refine ⟨ρ', ?_, e2, e3⟩
  unfold fX0_changeHour
  simp only [Option.bind_some, n10, if_false, x_hour_in ρ hv, F.2.1.2.2.1, e1]
theorem x_rateC (H : HouseR ρ a r B) (ok : OKr r) {v : Nat} (h1 : 1 ≤ v) (h9 : v ≤ 9) : ∃ ρ', fX0_changeRate ρ a (nI v) = some (nI (r 4), ρ') ∧ Fr ρ ρ' a 6 ∧ HouseR ρ' a (setE r 4 v) B := by
  have F := H.f ok.1.1
  obtain ⟨ρ', e1, e2, e3⟩ := H.pt (j := 4) (by omega) v
  refine ⟨ρ', ?_, e2, e3⟩
  unfold fX0_changeRate
  simp only [Option.bind_some, n10, if_false, show fX0_isWithin ρ (nI v) 1 9 = some (nI 1) from x_within_in ρ (lo := 1) (hi := 9) h1 h9 (by omega), F.2.1.2.2.2.2.2, e1]
theorem x_payC (H : HouseR ρ a r B) (ok : OKr r) {v : Nat} (hv : v ≤ 999) (ho : v ≤ r 3) : ∃ ρ', fX0_payOff ρ a (nI v) = some (nI (r 3 - v), ρ') ∧ Fr ρ ρ' a 6 ∧ HouseR ρ' a (setE r 3 (r 3 - v)) B := by
  have F := H.f ok.1.1
  have d4 := ok.1.2.2.2.1
  obtain ⟨ρ', e1, e2, e3⟩ := H.pt (j := 3) (by omega) (r 3 - v)
  have F2 := e3.f (by rw [setE_n (by omega)]; exact ok.1.1)
  refine ⟨ρ', ?_, e2, e3⟩
  unfold fX0_payOff
  simp only [Option.bind_some, n10, if_false, x_pay_in ρ hv, F.2.1.2.2.2.2.1, nI_le ho (show r 3 < 2 ^ 31 by omega), if_true, pk_sub ho, e1, F2.2.1.2.2.2.2.1, setE_s]
theorem x_pay_no (H : HouseR ρ a r B) (ok : OKr r) {v : Nat} (hv : v ≤ 999) (ho : r 3 < v) : fX0_payOff ρ a (nI v) = some (-3, ρ) := by
  have F := H.f ok.1.1
  unfold fX0_payOff
  simp only [Option.bind_some, n10, if_false, x_pay_in ρ hv, F.2.1.2.2.2.2.1, nI_ge ho (by omega)]
end CH
