/-! PURE: house: a statement on the draft, and on the reference's house. -/
section OPS
variable {κ : Rho} {x a b len p B : Nat} {F E : Nat → Int32} {c : Nat → Nat} {r : Nat → Nat}
def YES (x : Nat) (c : Nat → Nat) (p : Nat) (r r' : Nat → Nat) : Prop := ∀ (σ : Rho) (mo u : Nat → Int32) (w : Nat → Nat) (sm : Nat → Int32), MS σ x mo u r w sm → UN c p u → ∃ σ', fX10_isDone σ (x + 36) (nI (c p)) = some (nI 1, σ') ∧ MS σ' x mo u r' w sm ∧ Fh σ σ' x
def NOT (x : Nat) (c : Nat → Nat) (p : Nat) (r : Nat → Nat) : Prop := ∀ (σ : Rho) (mo u : Nat → Int32) (w : Nat → Nat) (sm : Nat → Int32), MS σ x mo u r w sm → UN c p u → ∃ σ' r', fX10_isDone σ (x + 36) (nI (c p)) = some (nI 0, σ') ∧ MS σ' x mo u r' w sm ∧ Fh σ σ' x
def OPG (κ : Rho) (x a p : Nat) (c : Nat → Nat) (r : Nat → Nat) : Prop := ∃ v κ' r' B', fX7_answerTo κ a (nI p) (x + 13) = some (v, κ') ∧ HouseR κ' (x + 13) r' B' ∧ Fr κ κ' (x + 13) 6 ∧ (((0 : Int32) ≤ v ∧ OKr r' ∧ BitsR r' B' ∧ YES x c p r r') ∨ (¬ (0 : Int32) ≤ v ∧ NOT x c p r))
theorem opY {v : Nat} {κ' : Rho} {r' : Nat → Nat} {B' : Nat} (hv : v < 2 ^ 31) (h1 : fX7_answerTo κ a (nI p) (x + 13) = some (nI v, κ')) (h2 : HouseR κ' (x + 13) r' B') (h3 : Fr κ κ' (x + 13) 6) (ok : OKr r') (bt : BitsR r' B') (h4 : YES x c p r r') : OPG κ x a p c r := ⟨nI v, κ', r', B', h1, h2, h3, Or.inl ⟨nI_pos' hv, ok, bt, h4⟩⟩
theorem opN {v : Int32} (hv : ¬ (0 : Int32) ≤ v) (H : HouseR κ (x + 13) r B) (h1 : fX7_answerTo κ a (nI p) (x + 13) = some (v, κ)) (h4 : NOT x c p r) : OPG κ x a p c r := ⟨v, κ, r, B, h1, H, Fr.rf, Or.inr ⟨hv, h4⟩⟩
theorem MS.u0 {σ : Rho} {mo u : Nat → Int32} {r w : Nat → Nat} {sm : Nat → Int32} (S : MS σ x mo u r w sm) : ldI σ (x + 41) 0 = some (u 0) := ldI_at S.2.1 (w := 0) (by omega) (by omega)
theorem MS.u1 {σ : Rho} {mo u : Nat → Int32} {r w : Nat → Nat} {sm : Nat → Int32} (S : MS σ x mo u r w sm) : ldI σ (x + 41) 1 = some (u 1) := ldI_at S.2.1 (w := 1) (by omega) (by omega)
theorem MS.u2 {σ : Rho} {mo u : Nat → Int32} {r w : Nat → Nat} {sm : Nat → Int32} (S : MS σ x mo u r w sm) : ldI σ (x + 41) 2 = some (u 2) := ldI_at S.2.1 (w := 2) (by omega) (by omega)
theorem MS.u3 {σ : Rho} {mo u : Nat → Int32} {r w : Nat → Nat} {sm : Nat → Int32} (S : MS σ x mo u r w sm) : ldI σ (x + 41) 3 = some (u 3) := ldI_at S.2.1 (w := 3) (by omega) (by omega)
theorem out_hi {v hi : Nat} (h : hi < v) (hb : v < 2 ^ 31) : nI v < nI 0 ∨ nI hi < nI v := Or.inr (nI_lt h hb)
theorem m1_neg : ¬ (0 : Int32) ≤ -1 := by decide
theorem m2_neg : ¬ (0 : Int32) ≤ -2 := by decide
theorem m3_neg : ¬ (0 : Int32) ≤ -3 := by decide
theorem op_step (H : HouseR κ (x + 13) r B) (ok : OKr r) (bt : BitsR r B) (T : CT κ a b F E) (K : KB c len F E) (hf : flt c len p = none) : OPG κ x a p c r := by
  have h8 := ok.1.1
  have hl := K.2.1
  obtain ⟨hp, hd0, hs, -⟩ := flt_none hf
  have D : ∀ j, j < dgs (c p) → p + 1 + j < len ∧ 48 ≤ c (p + 1 + j) ∧ c (p + 1 + j) ≤ 57 := scn_none _ _ hs
  have N : ∀ i n, 1 ≤ i → i - 1 + n ≤ dgs (c p) → n ≤ 5 → fX7_numberAt κ a (nI (p + i)) (nI n) = some (nI (nm c (p + i) n)) ∧ nm c (p + i) n < 10 ^ n := fun i n h1 h2 h3 => by
    have dj : ∀ j, j < n → p + i + j < len ∧ 48 ≤ c (p + i + j) ∧ c (p + i + j) ≤ 57 := fun j hj => by
      have := D (i - 1 + j) (by omega)
      rwa [show p + 1 + (i - 1 + j) = p + i + j by omega] at this
    by_cases hn : n = 0
    · subst hn
      exact ⟨x_num T K (fun j hj => by omega) (by omega) (by have := dgs_le (c p); omega), nm_lt _ (fun j hj => by omega)⟩
    · exact ⟨x_num T K dj h3 (by have := (dj 0 (by omega)).1; omega), nm_lt _ (fun j hj => (dj j hj).2)⟩
  have C0 : ckO κ 0 (x + 13) = some () := H.f0.1
  have G5 : gR κ 1 a 5 = some b := gR_at T.1 rfl
  have c7 : c p < 128 := by
    unfold dgs at hd0
    repeat' split at hd0
    all_goals omega
  have hE : ldI κ b (nI p) = some (nI (c p)) := (T.ld K hp).trans (by rw [(K.eq hp c7).mpr rfl])
  have st : fX7_answerTo κ a (nI p) (x + 13) = fX7_answerTo κ a (nI p) (x + 13) := rfl
  by_cases k1 : c p = 104
  · have hd : dgs (c p) = 2 := by rw [k1]; rfl
    obtain ⟨n1, b1⟩ := N 1 2 (by omega) (by omega) (by omega)
    have n1' : fX7_numberAt κ a (nI p + 1) 2 = some (nI (nm c (p + 1) 2)) := (by rw [nI_1]; exact n1)
    have ans : fX7_answerTo κ a (nI p) (x + 13) = (fX0_changeHour κ (x + 13) (nI (nm c (p + 1) 2))).bind fun y => some (y.1, y.2) := by
      unfold fX7_answerTo
      rw [G5, Option.bind_some, hE, Option.bind_some, k1, if_pos (show nI 104 = (104 : Int32) from rfl), n1', Option.bind_some, C0, Option.bind_some]
    have dn : ∀ (σ : Rho) (mo u : Nat → Int32) (w : Nat → Nat) (sm : Nat → Int32), MS σ x mo u r w sm → UN c p u → ∃ σ', fX10_isDone σ (x + 36) (nI (c p)) = ((fX10_isHour σ' (nI (nm c (p + 1) 2))).bind fun y => (nb y).bind fun y => some (y, σ')) ∧ MS σ' x mo u (setE r 1 (nm c (p + 1) 2)) w sm ∧ Fh σ σ' x := fun σ mo u w sm S U => by
      obtain ⟨σ1, e1, S1, f1⟩ := S.ss (j := 1) (by omega) (by omega) (nm c (p + 1) 2)
      refine ⟨σ1, ?_, S1, f1⟩
      unfold fX10_isDone
      rw [S.h8, Option.bind_some, S.u0, Option.bind_some, Option.bind_some, S.u1, Option.bind_some, k1, if_pos (show nI 104 = (104 : Int32) from rfl), S.1.s, Option.bind_some, U.1 k1, show stI σ (x + 37) 1 (nI (nm c (p + 1) 2)) = some σ1 from e1, Option.bind_some]
    by_cases q : nm c (p + 1) 2 < 24
    · obtain ⟨κ', e1, e2, e3⟩ := x_hourC H ok q
      refine opY (v := r 1) (by have := ok.1.2.1; omega) (by rw [ans, e1, Option.bind_some]) e3 e2 (ok.setN (by omega) (by omega) (fun _ => q) (fun h => by omega) (fun h => by omega) (fun h => by omega) (fun h => by omega)) (bt.setN (by omega) (by omega)) (fun σ mo u w sm S U => ?_)
      obtain ⟨σ1, d1, d2, d3⟩ := dn σ mo u w sm S U
      exact ⟨σ1, by rw [d1, m_hour_in σ1 q]; rfl, d2, d3⟩
    · refine opN m1_neg H ?_ (fun σ mo u w sm S U => ?_)
      · rw [ans]
        unfold fX0_changeHour
        rw [x_hour_out κ (out_hi (by omega) (by omega)), Option.bind_some, if_pos (of_eq_true z00)]
        rfl
      · obtain ⟨σ1, d1, d2, d3⟩ := dn σ mo u w sm S U
        exact ⟨σ1, _, by rw [d1, m_hour_out σ1 (out_hi (by omega) (by omega))]; rfl, d2, d3⟩
  by_cases k2 : c p = 110
  · have hd : dgs (c p) = 3 := by rw [k2]; rfl
    obtain ⟨n1, b1⟩ := N 1 1 (by omega) (by omega) (by omega)
    obtain ⟨n2, b2⟩ := N 2 2 (by omega) (by omega) (by omega)
    have n1' : fX7_numberAt κ a (nI p + 1) 1 = some (nI (nm c (p + 1) 1)) := (by rw [nI_1]; exact n1)
    have n2' : fX7_numberAt κ a (nI p + 2) 2 = some (nI (nm c (p + 2) 2)) := by
      rw [show nI p + 2 = nI (p + 2) from nI_add p 2]
      exact n2
    have ans : fX7_answerTo κ a (nI p) (x + 13) = (fX0_changeNeed κ (x + 13) (nI (nm c (p + 1) 1)) (nI (nm c (p + 2) 2))).bind fun y => some (y.1, y.2) := by
      unfold fX7_answerTo
      rw [G5, Option.bind_some, hE, Option.bind_some, k2, if_neg (show ¬ nI 110 = (104 : Int32) by decide), if_pos (show nI 110 = (110 : Int32) from rfl), n1', Option.bind_some, n2', Option.bind_some, C0, Option.bind_some]
    have dn : ∀ (σ : Rho) (mo u : Nat → Int32) (w : Nat → Nat) (sm : Nat → Int32), MS σ x mo u r w sm → UN c p u → fX10_isDone σ (x + 36) (nI (c p)) = ((fX10_isRoom σ (nI (nm c (p + 1) 1))).bind fun x10 => if x10 = 0 then ((nb 0).bind fun y => some (y, σ)) else (if nI (nm c (p + 2) 2) ≤ 20 then ((gR σ 3 (x + 36) 0).bind fun x13 => (stI σ x13 ((5 : Int32) + nI (nm c (p + 1) 1)) (nI (nm c (p + 2) 2))).bind fun x14 => (nb 1).bind fun y => some (y, x14)) else ((nb 0).bind fun y => some (y, σ)))) := fun σ mo u w sm S U => by
      obtain ⟨v1, v2⟩ := U.2.1 k2
      unfold fX10_isDone
      rw [S.h8, Option.bind_some, S.u0, Option.bind_some, Option.bind_some, S.u1, Option.bind_some, k2, if_neg (show ¬ nI 110 = (104 : Int32) by decide), if_pos (show nI 110 = (110 : Int32) from rfl), v1, v2]
    by_cases q : nm c (p + 1) 1 < 4
    · by_cases q2 : nm c (p + 2) 2 ≤ 20
      · obtain ⟨κ', e1, e2, e3⟩ := x_need H ok q q2
        refine opY (v := r (5 + nm c (p + 1) 1)) (by have := ok.2.1 _ q; omega) (by rw [ans, e1, Option.bind_some]) e3 e2 (ok.setN (by omega) (by omega) (fun h => by omega) (fun h => by omega) (fun h => by omega) (fun h => by omega) (fun _ => q2)) (bt.setN (by omega) (by omega)) (fun σ mo u w sm S U => ?_)
        obtain ⟨σ1, d1, d2, d3⟩ := S.ss (j := 5 + nm c (p + 1) 1) (by omega) (by omega) (nm c (p + 2) 2)
        refine ⟨σ1, ?_, d2, d3⟩
        rw [dn σ mo u w sm S U, m_room_in σ q, Option.bind_some, if_neg n10, if_pos (show nI (nm c (p + 2) 2) ≤ 20 from nI_le (b := 20) q2 (by omega)), S.1.s, Option.bind_some, show (5 : Int32) + nI (nm c (p + 1) 1) = nI (5 + nm c (p + 1) 1) from nI_add 5 _, d1, Option.bind_some]
        rfl
      · refine opN m1_neg H ?_ (fun σ mo u w sm S U => ⟨σ, r, ?_, S, Fh.rf⟩)
        · rw [ans]
          unfold fX0_changeNeed
          rw [x_room_in κ q, Option.bind_some, if_neg n10, show fX0_isWithin κ (nI (nm c (p + 2) 2)) 0 20 = some (nI 0) from x_within_out κ (out_hi (hi := 20) (by omega) (by omega)), Option.bind_some, if_pos (of_eq_true z00)]
          rfl
        · rw [dn σ mo u w sm S U, m_room_in σ q, Option.bind_some, if_neg n10, if_neg (show ¬ nI (nm c (p + 2) 2) ≤ 20 from nI_ge (a := 20) (by omega) (by omega))]
          rfl
    · refine opN m1_neg H ?_ (fun σ mo u w sm S U => ⟨σ, r, ?_, S, Fh.rf⟩)
      · rw [ans]
        unfold fX0_changeNeed
        rw [x_room_out κ (out_hi (by omega) (by omega)), Option.bind_some, if_pos (of_eq_true z00)]
        rfl
      · rw [dn σ mo u w sm S U, m_room_out σ (out_hi (by omega) (by omega)), Option.bind_some, if_pos (of_eq_true z00)]
        rfl
  by_cases k3 : c p = 112
  · have hd : dgs (c p) = 3 := by rw [k3]; rfl
    obtain ⟨n1, b1⟩ := N 1 3 (by omega) (by omega) (by omega)
    have n1' : fX7_numberAt κ a (nI p + 1) 3 = some (nI (nm c (p + 1) 3)) := (by rw [nI_1]; exact n1)
    have ans : fX7_answerTo κ a (nI p) (x + 13) = (fX0_payOff κ (x + 13) (nI (nm c (p + 1) 3))).bind fun y => some (y.1, y.2) := by
      unfold fX7_answerTo
      rw [G5, Option.bind_some, hE, Option.bind_some, k3, if_neg (show ¬ nI 112 = (104 : Int32) by decide), if_neg (show ¬ nI 112 = (110 : Int32) by decide), if_pos (show nI 112 = (112 : Int32) from rfl), n1', Option.bind_some, C0, Option.bind_some]
    have r3 := ok.1.2.2.2.1
    have dn : ∀ (σ : Rho) (mo u : Nat → Int32) (w : Nat → Nat) (sm : Nat → Int32), MS σ x mo u r w sm → UN c p u → fX10_isDone σ (x + 36) (nI (c p)) = (if nI (nm c (p + 1) 3) ≤ nI (r 3) then ((stI σ (x + 37) 3 (nI (r 3) - nI (nm c (p + 1) 3))).bind fun x58 => (nb 1).bind fun y => some (y, x58)) else ((nb 0).bind fun y => some (y, σ))) := fun σ mo u w sm S U => by
      have l3 : ldI σ (x + 37) 3 = some (nI (r 3)) := (S.2.2.1.f h8).1 3 (by omega)
      unfold fX10_isDone
      rw [S.h8, Option.bind_some, S.u0, Option.bind_some, Option.bind_some, S.u1, Option.bind_some, k3, if_neg (show ¬ nI 112 = (104 : Int32) by decide), if_neg (show ¬ nI 112 = (110 : Int32) by decide), if_neg (show ¬ nI 112 = (114 : Int32) by decide), if_neg (show ¬ nI 112 = (115 : Int32) by decide), if_neg (show ¬ nI 112 = (119 : Int32) by decide), if_neg (show ¬ nI 112 = (121 : Int32) by decide), S.1.s, Option.bind_some, l3, Option.bind_some, Option.bind_some, l3, Option.bind_some, U.2.2.1 k3]
    by_cases q : nm c (p + 1) 3 ≤ r 3
    · obtain ⟨κ', e1, e2, e3⟩ := x_payC H ok (v := nm c (p + 1) 3) (by omega) q
      refine opY (v := r 3 - nm c (p + 1) 3) (by omega) (by rw [ans, e1, Option.bind_some]) e3 e2 (ok.setN (by omega) (by omega) (fun h => by omega) (fun h => by omega) (fun h => by omega) (fun h => by omega) (fun h => by omega)) (bt.setN (by omega) (by omega)) (fun σ mo u w sm S U => ?_)
      obtain ⟨σ1, d1, d2, d3⟩ := S.ss (j := 3) (by omega) (by omega) (r 3 - nm c (p + 1) 3)
      refine ⟨σ1, ?_, d2, d3⟩
      rw [dn σ mo u w sm S U, if_pos (nI_le q (by omega)), pk_sub q, show stI σ (x + 37) 3 (nI (r 3 - nm c (p + 1) 3)) = some σ1 from d1, Option.bind_some]
      rfl
    · refine opN m3_neg H ?_ (fun σ mo u w sm S U => ⟨σ, r, ?_, S, Fh.rf⟩)
      · rw [ans, x_pay_no H ok (v := nm c (p + 1) 3) (by omega) (by omega), Option.bind_some]
      · rw [dn σ mo u w sm S U, if_neg (nI_ge (by omega) (by omega))]
        rfl
  by_cases k4 : c p = 114
  · have hd : dgs (c p) = 1 := by rw [k4]; rfl
    obtain ⟨n1, b1⟩ := N 1 1 (by omega) (by omega) (by omega)
    have n1' : fX7_numberAt κ a (nI p + 1) 1 = some (nI (nm c (p + 1) 1)) := (by rw [nI_1]; exact n1)
    have ans : fX7_answerTo κ a (nI p) (x + 13) = (fX0_changeRate κ (x + 13) (nI (nm c (p + 1) 1))).bind fun y => some (y.1, y.2) := by
      unfold fX7_answerTo
      rw [G5, Option.bind_some, hE, Option.bind_some, k4, if_neg (show ¬ nI 114 = (104 : Int32) by decide), if_neg (show ¬ nI 114 = (110 : Int32) by decide), if_neg (show ¬ nI 114 = (112 : Int32) by decide), if_pos (show nI 114 = (114 : Int32) from rfl), n1', Option.bind_some, C0, Option.bind_some]
    have dn : ∀ (σ : Rho) (mo u : Nat → Int32) (w : Nat → Nat) (sm : Nat → Int32), MS σ x mo u r w sm → UN c p u → ∃ σ', fX10_isDone σ (x + 36) (nI (c p)) = (if nI (nm c (p + 1) 1) < 1 then ((nb 0).bind fun y => some (y, σ')) else ((nb 1).bind fun y => some (y, σ'))) ∧ MS σ' x mo u (setE r 4 (nm c (p + 1) 1)) w sm ∧ Fh σ σ' x := fun σ mo u w sm S U => by
      obtain ⟨σ1, e1, S1, f1⟩ := S.ss (j := 4) (by omega) (by omega) (nm c (p + 1) 1)
      refine ⟨σ1, ?_, S1, f1⟩
      unfold fX10_isDone
      rw [S.h8, Option.bind_some, S.u0, Option.bind_some, Option.bind_some, S.u1, Option.bind_some, k4, if_neg (show ¬ nI 114 = (104 : Int32) by decide), if_neg (show ¬ nI 114 = (110 : Int32) by decide), if_pos (show nI 114 = (114 : Int32) from rfl), S.1.s, Option.bind_some, U.2.2.2.1 k4, show stI σ (x + 37) 4 (nI (nm c (p + 1) 1)) = some σ1 from e1, Option.bind_some]
    by_cases q : 1 ≤ nm c (p + 1) 1
    · obtain ⟨κ', e1, e2, e3⟩ := x_rateC H ok q (by omega)
      refine opY (v := r 4) (by have := ok.1.2.2.2.2.2; omega) (by rw [ans, e1, Option.bind_some]) e3 e2 (ok.setN (by omega) (by omega) (fun h => by omega) (fun h => by omega) (fun h => by omega) (fun _ => ⟨q, by omega⟩) (fun h => by omega)) (bt.setN (by omega) (by omega)) (fun σ mo u w sm S U => ?_)
      obtain ⟨σ1, d1, d2, d3⟩ := dn σ mo u w sm S U
      exact ⟨σ1, by rw [d1, if_neg (show ¬ nI (nm c (p + 1) 1) < 1 from fun h => absurd ((nI_ltI (b := 1) (by omega) (by omega)).mp h) (by omega))]; rfl, d2, d3⟩
    · refine opN m1_neg H ?_ (fun σ mo u w sm S U => ?_)
      · rw [ans]
        unfold fX0_changeRate
        rw [show fX0_isWithin κ (nI (nm c (p + 1) 1)) 1 9 = some (nI 0) from x_within_out κ (Or.inl (show nI (nm c (p + 1) 1) < nI 1 from nI_lt (by omega) (by omega))), Option.bind_some, if_pos (of_eq_true z00)]
        rfl
      · obtain ⟨σ1, d1, d2, d3⟩ := dn σ mo u w sm S U
        exact ⟨σ1, _, by rw [d1, if_pos (show nI (nm c (p + 1) 1) < 1 from nI_lt (b := 1) (by omega) (by omega))]; rfl, d2, d3⟩
  by_cases k5 : c p = 115
  · have hd : dgs (c p) = 1 := by rw [k5]; rfl
    obtain ⟨n1, b1⟩ := N 1 1 (by omega) (by omega) (by omega)
    have n1' : fX7_numberAt κ a (nI p + 1) 1 = some (nI (nm c (p + 1) 1)) := (by rw [nI_1]; exact n1)
    have ans : fX7_answerTo κ a (nI p) (x + 13) = (fX0_turnStopped κ (x + 13) (nI (nm c (p + 1) 1))).bind fun y => some (y.1, y.2) := by
      unfold fX7_answerTo
      rw [G5, Option.bind_some, hE, Option.bind_some, k5, if_neg (show ¬ nI 115 = (104 : Int32) by decide), if_neg (show ¬ nI 115 = (110 : Int32) by decide), if_neg (show ¬ nI 115 = (112 : Int32) by decide), if_neg (show ¬ nI 115 = (114 : Int32) by decide), if_pos (show nI 115 = (115 : Int32) from rfl), n1', Option.bind_some, C0, Option.bind_some]
    have dn : ∀ (σ : Rho) (mo u : Nat → Int32) (w : Nat → Nat) (sm : Nat → Int32), MS σ x mo u r w sm → UN c p u → fX10_isDone σ (x + 36) (nI (c p)) = ((fX10_isWindow σ (x + 36) (nI (nm c (p + 1) 1))).bind fun x21 => if x21 = 0 then ((nb 0).bind fun y => some (y, σ)) else ((fX10_of σ (nI (nm c (p + 1) 1)) 4).bind fun x24 => (ldI σ (x + 37) x24).bind fun x25 => (stI σ (x + 37) x24 (x25 ^^^ 1)).bind fun x26 => (nb 1).bind fun y => some (y, x26))) := fun σ mo u w sm S U => by
      unfold fX10_isDone
      rw [S.h8, Option.bind_some, S.u0, Option.bind_some, Option.bind_some, S.u1, Option.bind_some, k5, if_neg (show ¬ nI 115 = (104 : Int32) by decide), if_neg (show ¬ nI 115 = (110 : Int32) by decide), if_neg (show ¬ nI 115 = (114 : Int32) by decide), if_pos (show nI 115 = (115 : Int32) from rfl), S.ck, Option.bind_some, S.1.s, Option.bind_some, U.2.2.2.2.1 k5]
    by_cases q : nm c (p + 1) 1 < r 0
    · obtain ⟨κ', e1, e2, e3⟩ := x_turn H bt ok q
      have t1 := (ok.2.2 _ q).2.2.2.2
      refine opY (v := trnR r (nm c (p + 1) 1) (9 + 5 * nm c (p + 1) 1 + 4)) (by unfold trnR; rw [setE_s]; omega) (by rw [ans, e1, Option.bind_some]) e3 e2 (ok.trn q) (bt.trn h8 q) (fun σ mo u w sm S U => ?_)
      obtain ⟨σ1, d1, d2, d3⟩ := S.ss (j := 9 + 5 * nm c (p + 1) 1 + 4) (by omega) (by omega) (1 - r (9 + 5 * nm c (p + 1) 1 + 4))
      refine ⟨σ1, ?_, d2, d3⟩
      have hx : nI (r (9 + 5 * nm c (p + 1) 1 + 4)) ^^^ 1 = nI (1 - r (9 + 5 * nm c (p + 1) 1 + 4)) := by
        rcases (show r (9 + 5 * nm c (p + 1) 1 + 4) = 0 ∨ r (9 + 5 * nm c (p + 1) 1 + 4) = 1 by omega) with e | e <;> rw [e] <;> rfl
      have G1 := S.2.2.1.f h8
      rw [dn σ mo u w sm S U, m_win_in S.1.s G1 ok q, Option.bind_some, if_neg n10, show fX10_of σ (nI (nm c (p + 1) 1)) 4 = some (nI (9 + 5 * nm c (p + 1) 1 + 4)) from m_of σ _ 4, Option.bind_some, G1.2 _ q 4 (by omega), Option.bind_some, hx, d1, Option.bind_some]
      rfl
    · have o : nI (nm c (p + 1) 1) < nI 0 ∨ nI (r 0) ≤ nI (nm c (p + 1) 1) := Or.inr (nI_le (by omega) (by omega))
      refine opN m1_neg H ?_ (fun σ mo u w sm S U => ⟨σ, r, ?_, S, Fh.rf⟩)
      · rw [ans]
        unfold fX0_turnStopped
        rw [C0, Option.bind_some, x_win_out (H.f h8) o, Option.bind_some, if_pos (of_eq_true z00)]
        rfl
      · rw [dn σ mo u w sm S U, m_win_out S.1.s (S.2.2.1.f h8) ok o, Option.bind_some, if_pos (of_eq_true z00)]
        rfl
  by_cases k6 : c p = 121
  · have hd : dgs (c p) = 2 := by rw [k6]; rfl
    obtain ⟨n1, b1⟩ := N 1 2 (by omega) (by omega) (by omega)
    have n1' : fX7_numberAt κ a (nI p + 1) 2 = some (nI (nm c (p + 1) 2)) := (by rw [nI_1]; exact n1)
    have ans : fX7_answerTo κ a (nI p) (x + 13) = (fX0_passYears κ (x + 13) (nI (nm c (p + 1) 2))).bind fun y => some (y.1, y.2) := by
      unfold fX7_answerTo
      rw [G5, Option.bind_some, hE, Option.bind_some, k6, if_neg (show ¬ nI 121 = (104 : Int32) by decide), if_neg (show ¬ nI 121 = (110 : Int32) by decide), if_neg (show ¬ nI 121 = (112 : Int32) by decide), if_neg (show ¬ nI 121 = (114 : Int32) by decide), if_neg (show ¬ nI 121 = (115 : Int32) by decide), if_neg (show ¬ nI 121 = (119 : Int32) by decide), if_pos (show nI 121 = (121 : Int32) from rfl), n1', Option.bind_some, C0, Option.bind_some]
    have r2 := ok.1.2.2.1
    have dn : ∀ (σ : Rho) (mo u : Nat → Int32) (w : Nat → Nat) (sm : Nat → Int32), MS σ x mo u r w sm → UN c p u → fX10_isDone σ (x + 36) (nI (c p)) = (if nI (nm c (p + 1) 2) = 0 then ((nb 0).bind fun y => some (y, σ)) else (if nI (r 2) + nI (nm c (p + 1) 2) ≤ 999 then ((fX10_yearsOn σ (x + 36) (nI (nm c (p + 1) 2))).bind fun x52 => (nb 1).bind fun y => some (y, x52)) else ((nb 0).bind fun y => some (y, σ)))) := fun σ mo u w sm S U => by
      have l2 : ldI σ (x + 37) 2 = some (nI (r 2)) := (S.2.2.1.f h8).1 2 (by omega)
      unfold fX10_isDone
      rw [S.h8, Option.bind_some, S.u0, Option.bind_some, Option.bind_some, S.u1, Option.bind_some, k6, if_neg (show ¬ nI 121 = (104 : Int32) by decide), if_neg (show ¬ nI 121 = (110 : Int32) by decide), if_neg (show ¬ nI 121 = (114 : Int32) by decide), if_neg (show ¬ nI 121 = (115 : Int32) by decide), if_neg (show ¬ nI 121 = (119 : Int32) by decide), if_pos (show nI 121 = (121 : Int32) from rfl), S.1.s, Option.bind_some, l2, Option.bind_some, S.ck, Option.bind_some, U.2.2.2.2.2.2 k6]
    by_cases q0 : nm c (p + 1) 2 = 0
    · refine opN m1_neg H ?_ (fun σ mo u w sm S U => ⟨σ, r, ?_, S, Fh.rf⟩)
      · rw [ans, q0]
        unfold fX0_passYears
        rw [show fX0_isWithin κ (nI 0) 1 99 = some (nI 0) from x_within_out κ (Or.inl (by decide)), Option.bind_some, if_pos (of_eq_true z00)]
        rfl
      · rw [dn σ mo u w sm S U, q0, if_pos (of_eq_true z00)]
        rfl
    have ne0 : ¬ nI (nm c (p + 1) 2) = 0 := fun h => q0 ((nI_eq (b := 0) (by omega) (by omega)).mp h)
    by_cases q : r 2 + nm c (p + 1) 2 ≤ 999
    · obtain ⟨κ', e1, e2, e3⟩ := x_years H bt ok (N := nm c (p + 1) 2) (by omega) (by omega) q
      have oy := oY_le ok (nm c (p + 1) 2)
      refine opY (v := oY r (nm c (p + 1) 2)) (by omega) (by rw [ans, e1, Option.bind_some]) e3 e2 ((ok.setN (by omega) (by omega) (fun h => by omega) (fun h => by omega) (fun _ => oy) (fun h => by omega) (fun h => by omega)).setN (by omega) (by omega) (fun h => by omega) (fun _ => q) (fun h => by omega) (fun h => by omega) (fun h => by omega)) ((bt.setN (by omega) (by omega)).setN (by omega) (by omega)) (fun σ mo u w sm S U => ?_)
      obtain ⟨σ1, d1, d2, d3⟩ := m_yearsOn (N := nm c (p + 1) 2) S.2.2.1 S.1 ok (by omega)
      refine ⟨σ1, ?_, ⟨(d2 _ (by omega)).trans S.1, (d2 _ (by omega)).trans S.2.1, d3, ArrR.fr (d2 _ (by omega)) S.2.2.2.1, (d2 _ (by omega)).trans S.2.2.2.2⟩, Fh.s d2⟩
      rw [dn σ mo u w sm S U, if_neg ne0, nI_add, if_pos (show nI (r 2 + nm c (p + 1) 2) ≤ 999 from nI_le (b := 999) q (by omega)), d1, Option.bind_some]
      rfl
    · refine opN m3_neg H ?_ (fun σ mo u w sm S U => ⟨σ, r, ?_, S, Fh.rf⟩)
      · rw [ans, x_years_no H ok (N := nm c (p + 1) 2) (by omega) (by omega) (by omega), Option.bind_some]
      · rw [dn σ mo u w sm S U, if_neg ne0, nI_add, if_neg (show ¬ nI (r 2 + nm c (p + 1) 2) ≤ 999 from nI_ge (a := 999) (by omega) (by omega))]
        rfl
  have k7 : c p = 119 := by
    unfold dgs at hd0
    rw [if_neg k1, if_neg k2, if_neg k3, if_neg k4, if_neg k5] at hd0
    by_cases q : c p = 119
    · exact q
    · rw [if_neg q, if_neg k6] at hd0
      exact absurd rfl hd0
  have hd : dgs (c p) = 5 := by rw [k7]; rfl
  obtain ⟨n1, b1⟩ := N 1 1 (by omega) (by omega) (by omega)
  obtain ⟨n2, b2⟩ := N 2 1 (by omega) (by omega) (by omega)
  obtain ⟨n3, b3⟩ := N 3 1 (by omega) (by omega) (by omega)
  obtain ⟨n4, b4⟩ := N 4 2 (by omega) (by omega) (by omega)
  have n1' : fX7_numberAt κ a (nI p + 1) 1 = some (nI (nm c (p + 1) 1)) := (by rw [nI_1]; exact n1)
  have n2' : fX7_numberAt κ a (nI p + 2) 1 = some (nI (nm c (p + 2) 1)) := by
    rw [show nI p + 2 = nI (p + 2) from nI_add p 2]
    exact n2
  have n3' : fX7_numberAt κ a (nI p + 3) 1 = some (nI (nm c (p + 3) 1)) := by
    rw [show nI p + 3 = nI (p + 3) from nI_add p 3]
    exact n3
  have n4' : fX7_numberAt κ a (nI p + 4) 2 = some (nI (nm c (p + 4) 2)) := by
    rw [show nI p + 4 = nI (p + 4) from nI_add p 4]
    exact n4
  have ans : fX7_answerTo κ a (nI p) (x + 13) = (fX0_addWindow κ (x + 13) (nI (nm c (p + 1) 1)) (nI (nm c (p + 2) 1)) (nI (nm c (p + 3) 1)) (nI (nm c (p + 4) 2))).bind fun y => some (y.1, y.2) := by
    unfold fX7_answerTo
    rw [G5, Option.bind_some, hE, Option.bind_some, k7, if_neg (show ¬ nI 119 = (104 : Int32) by decide), if_neg (show ¬ nI 119 = (110 : Int32) by decide), if_neg (show ¬ nI 119 = (112 : Int32) by decide), if_neg (show ¬ nI 119 = (114 : Int32) by decide), if_neg (show ¬ nI 119 = (115 : Int32) by decide), if_pos (show nI 119 = (119 : Int32) from rfl), n1', Option.bind_some, n2', Option.bind_some, n3', Option.bind_some, n4', Option.bind_some, C0, Option.bind_some]
  have dn : ∀ (σ : Rho) (mo u : Nat → Int32) (w : Nat → Nat) (sm : Nat → Int32), MS σ x mo u r w sm → UN c p u → fX10_isDone σ (x + 36) (nI (c p)) = (if (8 : Int32) ≤ nI (nm c (p + 1) 1) then ((nb 0).bind fun y => some (y, σ)) else ((fX10_isRoom σ (nI (nm c (p + 3) 1))).bind fun x31 => if x31 = 0 then ((nb 0).bind fun y => some (y, σ)) else ((fX10_isHour σ (nI (nm c (p + 4) 2))).bind fun x35 => if x35 = 0 then ((nb 0).bind fun y => some (y, σ)) else (if nI (r 0) = 8 then ((nb 0).bind fun y => some (y, σ)) else ((fX10_adds σ (x + 36) (nI (nm c (p + 1) 1)) (nI (nm c (p + 2) 1)) (nI (nm c (p + 3) 1)) (nI (nm c (p + 4) 2))).bind fun x45 => (nb 1).bind fun y => some (y, x45)))))) := fun σ mo u w sm S U => by
    have l0 : ldI σ (x + 37) 0 = some (nI (r 0)) := (S.2.2.1.f h8).1 0 (by omega)
    obtain ⟨w0, w1, w2, w3⟩ := U.2.2.2.2.2.1 k7
    unfold fX10_isDone
    rw [S.h8, Option.bind_some, S.u0, Option.bind_some, Option.bind_some, S.u1, Option.bind_some, k7, if_neg (show ¬ nI 119 = (104 : Int32) by decide), if_neg (show ¬ nI 119 = (110 : Int32) by decide), if_neg (show ¬ nI 119 = (114 : Int32) by decide), if_neg (show ¬ nI 119 = (115 : Int32) by decide), if_pos (show nI 119 = (119 : Int32) from rfl)]
    simp only [Option.bind_some, S.u2, S.u3, S.1.s, S.ck, l0, w0, w1, w2, w3]
  by_cases q1 : nm c (p + 1) 1 < 8
  · by_cases q2 : nm c (p + 3) 1 < 4
    · by_cases q3 : nm c (p + 4) 2 < 24
      · by_cases q4 : r 0 = 8
        · refine opN m2_neg H ?_ (fun σ mo u w sm S U => ⟨σ, r, ?_, S, Fh.rf⟩)
          · rw [ans, x_add_full H ok q4 q1 (by omega) q2 q3, Option.bind_some]
          · rw [dn σ mo u w sm S U, if_neg (show ¬ (8 : Int32) ≤ nI (nm c (p + 1) 1) from nI_ge (b := 8) q1 (by omega)), m_room_in σ q2, Option.bind_some, if_neg n10, m_hour_in σ q3, Option.bind_some, if_neg n10, q4, if_pos (show nI 8 = 8 from rfl)]
            rfl
        · obtain ⟨κ', e1, e2, e3⟩ := x_add H ok (show r 0 < 8 by omega) q1 (show nm c (p + 2) 1 < 10 by omega) q2 q3
          refine opY (v := r 0) (by omega) (by rw [ans, e1, Option.bind_some]) e3 e2 (addW_ok ok (by omega) q1 (by omega) q2 q3) (addW_bits bt) (fun σ mo u w sm S U => ?_)
          obtain ⟨σ1, d1, d2, d3⟩ := m_adds (k := nm c (p + 1) 1) (f := nm c (p + 2) 1) (room := nm c (p + 3) 1) (h := nm c (p + 4) 2) S.2.2.1 S.1 (show r 0 < 8 by omega)
          refine ⟨σ1, ?_, ⟨(d2 _ (by omega)).trans S.1, (d2 _ (by omega)).trans S.2.1, d3, ArrR.fr (d2 _ (by omega)) S.2.2.2.1, (d2 _ (by omega)).trans S.2.2.2.2⟩, Fh.s d2⟩
          rw [dn σ mo u w sm S U, if_neg (show ¬ (8 : Int32) ≤ nI (nm c (p + 1) 1) from nI_ge (b := 8) q1 (by omega)), m_room_in σ q2, Option.bind_some, if_neg n10, m_hour_in σ q3, Option.bind_some, if_neg n10, if_neg (show ¬ nI (r 0) = 8 from fun h => q4 ((nI_eq (b := 8) (by omega) (by omega)).mp h)), d1, Option.bind_some]
          rfl
      · refine opN m1_neg H ?_ (fun σ mo u w sm S U => ⟨σ, r, ?_, S, Fh.rf⟩)
        · rw [ans]
          unfold fX0_addWindow
          rw [x_kind_in κ q1, Option.bind_some, if_neg n10, x_fig_in κ (by omega), Option.bind_some, if_neg n10, x_room_in κ q2, Option.bind_some, if_neg n10, x_hour_out κ (out_hi (by omega) (by omega)), Option.bind_some, if_pos (of_eq_true z00)]
          rfl
        · rw [dn σ mo u w sm S U, if_neg (show ¬ (8 : Int32) ≤ nI (nm c (p + 1) 1) from nI_ge (b := 8) q1 (by omega)), m_room_in σ q2, Option.bind_some, if_neg n10, m_hour_out σ (out_hi (by omega) (by omega)), Option.bind_some, if_pos (of_eq_true z00)]
          rfl
    · refine opN m1_neg H ?_ (fun σ mo u w sm S U => ⟨σ, r, ?_, S, Fh.rf⟩)
      · rw [ans]
        unfold fX0_addWindow
        rw [x_kind_in κ q1, Option.bind_some, if_neg n10, x_fig_in κ (by omega), Option.bind_some, if_neg n10, x_room_out κ (out_hi (by omega) (by omega)), Option.bind_some, if_pos (of_eq_true z00)]
        rfl
      · rw [dn σ mo u w sm S U, if_neg (show ¬ (8 : Int32) ≤ nI (nm c (p + 1) 1) from nI_ge (b := 8) q1 (by omega)), m_room_out σ (out_hi (by omega) (by omega)), Option.bind_some, if_pos (of_eq_true z00)]
        rfl
  · refine opN m1_neg H ?_ (fun σ mo u w sm S U => ⟨σ, r, ?_, S, Fh.rf⟩)
    · rw [ans]
      unfold fX0_addWindow
      rw [x_kind_out κ (out_hi (by omega) (by omega)), Option.bind_some, if_pos (of_eq_true z00)]
      rfl
    · rw [dn σ mo u w sm S U, if_pos (show (8 : Int32) ≤ nI (nm c (p + 1) 1) from nI_le (a := 8) (by omega) (by omega))]
      rfl
end OPS
