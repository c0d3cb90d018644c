/-! PURE: the calls that change the house. -/
theorem MO.s {ρ : Rho} {z : Nat} {mo : Nat → Int32} (h : MO ρ z mo) : gR ρ 3 (z + 36) 0 = some (z + 37) := gR_at h rfl
theorem MO.m {ρ : Rho} {z : Nat} {mo : Nat → Int32} (h : MO ρ z mo) : gR ρ 3 (z + 36) 1 = some (z + 38) := gR_at h rfl
theorem ww0 {ρ : Rho} {x q o : Nat} (hR : Rel ρ x q o) {fx : Option (Int32 × Rho)} {fm : Rho → Option (Int32 × Rho)} (h : ∃ v, fx = some (v, ρ) ∧ fm ρ = some (v, ρ)) : ∃ (ux : Unit) (r : Int32) (ρ1 : Rho) (um : Unit) (ρ2 : Rho), ckO ρ 2 x = some ux ∧ fx = some (r, ρ1) ∧ ckO ρ1 3 q = some um ∧ fm ρ1 = some (r, ρ2) ∧ Rel ρ2 x q o := by
  obtain ⟨r, B, C⟩ := hR.c
  obtain ⟨v, h1, h2⟩ := h
  exact ⟨(), v, ρ, (), ρ, C.1.1, h1, C.2.1.1, h2, hR⟩
section WW
variable {ρ : Rho} {x : Nat} {h : Nat} {n i d : HT} {sf se : Nat → Nat → Int32} {mo : Nat → Int32} {a b g w : Nat → Nat} {u t : Nat → Int32} {sk : Nat → Nat → Int32} {sm : Nat → Int32}
theorem wwN {fx : Option (Int32 × Rho)} {fm : Rho → Option (Int32 × Rho)} (I : Inv x h n i d sf se mo a b g w u t sk sm ρ) (gd : GoodR h n i mo a g) (sh : ShOK sf se sk sm) (r' : Nat → Nat) (B' : Nat) (ok' : OKr r') (bt' : BitsR r' B') (v : Int32) (hx : ∃ ρ1, fx = some (v, ρ1) ∧ Fr ρ ρ1 (x + 1) 6 ∧ HouseR ρ1 (x + 1) r' B') (hm : ∀ ρ1, Inv x h (r', B') i d sf se mo a b g w u t sk sm ρ1 → ArrR ρ1 (x + 37) n.1 → MO ρ1 x mo → ∃ ρ2, fm ρ1 = some (v, ρ2) ∧ Fr ρ1 ρ2 (x + 37) 1 ∧ ArrR ρ2 (x + 37) r') : ∃ (ux : Unit) (r : Int32) (ρ1 : Rho) (um : Unit) (ρ2 : Rho), ckO ρ 2 x = some ux ∧ fx = some (r, ρ1) ∧ ckO ρ1 3 (x + 36) = some um ∧ fm ρ1 = some (r, ρ2) ∧ Rel ρ2 x (x + 36) (x + 49) := by
  obtain ⟨ρ1, x1, x2, x3⟩ := hx
  have I1 : Inv x h (r', B') i d sf se mo a b g w u t sk sm ρ1 := I.uN (n' := (r', B')) (fun j hj hc => x2 (x + j) (by omega)) x3
  have gd2 := gd
  obtain ⟨g0, ⟨ea, ok, bt⟩, gi⟩ := gd
  obtain ⟨ρ2, y1, y2, y3⟩ := hm ρ1 I1 (ea ▸ I1.A) I1.O
  have I2 := I1.uA (a' := r') (fun j hj hc => y2 (x + j) (by omega)) y3
  exact ⟨(), v, ρ1, (), ρ2, ckO_at I.X, x1, ckO_at I1.O, y1, x, h, (r', B'), i, d, sf, se, mo, r', b, g, w, u, t, sk, sm, ⟨rfl, rfl, rfl⟩, I2, ⟨g0, ⟨rfl, ok', bt'⟩, gi⟩, sh⟩
end WW
theorem OKr.setN {r : Nat → Nat} (ok : OKr r) {j v : Nat} (hj : 1 ≤ j) (h9 : j < 9) (h1 : j = 1 → v < 24) (h2 : j = 2 → v ≤ 999) (h3 : j = 3 → v ≤ 99999) (h4 : j = 4 → 1 ≤ v ∧ v ≤ 9) (h5 : 5 ≤ j → v ≤ 20) : OKr (setE r j v) := by
  obtain ⟨⟨o0, o1, o2, o3, o4, o5⟩, o6, o7⟩ := ok
  have e : ∀ k, setE r j v k = if k = j then v else r k := fun k => rfl
  refine ⟨⟨?_, ?_, ?_, ?_, ?_, ?_⟩, fun k hk => ?_, fun w hw => ?_⟩
  · rw [setE_n (by omega)]; exact o0
  · rw [e]; split <;> omega
  · rw [e]; split <;> omega
  · rw [e]; split <;> omega
  · rw [e]; split <;> omega
  · rw [e]; split <;> omega
  · rw [e]; have := o6 k hk; split <;> omega
  · rw [setE_n (by omega)] at hw
    rw [setE_n (by omega), setE_n (by omega), setE_n (by omega), setE_n (by omega), setE_n (by omega)]
    exact o7 w hw
theorem BitsR.setN {r : Nat → Nat} {B : Nat} (bt : BitsR r B) {j v : Nat} (hj : 1 ≤ j) (h9 : j < 9) : BitsR (setE r j v) B := by
  refine ⟨by rw [setE_n (by omega)]; exact bt.1, fun w hw => ?_⟩
  rw [setE_n (by omega)] at hw
  rw [setE_n (by omega)]
  exact bt.2 w hw
theorem sim_stops : Sim_stops Rel := by
  intro ρ z0 x q o a1 hR hf
  obtain ⟨z, h, n, i, d, sf, se, mo, a, b, g, w, u, t, sk, sm, ⟨hx, hq, ho⟩, I, gd, sh⟩ := id hR
  subst hq ho
  subst hx
  obtain ⟨⟨g1, g2⟩, ⟨ea, ok, bt⟩, gi⟩ := id gd
  have hA : ArrR ρ (x + 37) n.1 := ea ▸ I.A
  have F := I.N.f ok.1.1
  have G := hA.f ok.1.1
  have X1 : gR ρ 2 x 0 = some (x + 1) := gR_at I.X rfl
  have M0 : ckO ρ 3 (x + 36) = some () := ckO_at I.O
  have M1 : gR ρ 3 (x + 36) 0 = some (x + 37) := gR_at I.O rfl
  rcases or_assoc.mpr (rng0 a1 (n := n.1 0) (have := ok.1.1; by omega)) with c | ⟨v, hv, rfl⟩
  · refine ww0 hR (fm := fun ρ => fX10_stops ρ (x + 36) a1) ⟨-1, ?_, ?_⟩
    · unfold fX9_stops fX0_turnStopped
      simp only [Option.bind_some, n10, if_false, X1, F.1.1, x_win_out F c, z00, if_true]
    · show fX10_stops ρ (x + 36) a1 = _
      unfold fX10_stops
      simp only [Option.bind_some, n10, if_false, M0, m_win_out M1 G ok c, z00, if_true]
  obtain ⟨ρ1, e1, e2, e3⟩ := x_turn I.N bt ok hv
  refine wwN (fm := fun ρ => fX10_stops ρ (x + 36) (nI v)) I gd sh _ _ (ok.trn hv) (bt.trn ok.1.1 hv) (nI (trnR n.1 v (9 + 5 * v + 4))) ⟨ρ1, ?_, e2, e3⟩ (fun ρ1 I1 A1 O1 => ?_)
  · unfold fX9_stops
    simp only [Option.bind_some, n10, if_false, X1, F.1.1, e1]
  · have G1 := A1.f ok.1.1
    have q := (ok.2.2 v hv).2.2.2.2
    have h8 := ok.1.1
    obtain ⟨ρ2, y1, y2, y3⟩ := A1.set (j := 9 + 5 * v + 4) (by omega) (by omega) (1 - n.1 (9 + 5 * v + 4))
    have hx : nI (n.1 (9 + 5 * v + 4)) ^^^ 1 = nI (1 - n.1 (9 + 5 * v + 4)) := by
      rcases (show n.1 (9 + 5 * v + 4) = 0 ∨ n.1 (9 + 5 * v + 4) = 1 by omega) with e | e <;> rw [e] <;> rfl
    have G2 := y3.f (by rw [setE_n (by omega)]; exact h8)
    refine ⟨ρ2, ?_, y2, y3⟩
    show fX10_stops ρ1 (x + 36) (nI v) = _
    unfold fX10_stops
    have M2 : gR ρ2 3 (x + 36) 0 = some (x + 37) := gR_at ((y2 (x + 36) (by omega)).trans O1) rfl
    simp only [Option.bind_some, n10, if_false, ckO_at O1, m_win_in (O1.s) G1 ok hv, O1.s, fa_lit 4, m_of, G1.2 v hv 4 (by omega), hx, y1, M2, G2.2 v (by rw [setE_n (by omega)]; exact hv) 4 (by omega)]
    rfl
theorem sim_needs : Sim_needs Rel := by
  intro ρ z0 x q o a1 a2 hR hf
  obtain ⟨z, h, n, i, d, sf, se, mo, a, b, g, w, u, t, sk, sm, ⟨hx, hq, ho⟩, I, gd, sh⟩ := id hR
  subst hq ho
  subst hx
  obtain ⟨⟨g1, g2⟩, ⟨ea, ok, bt⟩, gi⟩ := id gd
  have hA : ArrR ρ (x + 37) n.1 := ea ▸ I.A
  have F := I.N.f ok.1.1
  have G := hA.f ok.1.1
  have X1 : gR ρ 2 x 0 = some (x + 1) := gR_at I.X rfl
  have M0 : ckO ρ 3 (x + 36) = some () := ckO_at I.O
  have M1 : gR ρ 3 (x + 36) 0 = some (x + 37) := gR_at I.O rfl
  rcases or_assoc.mpr (rng a1 (lo := 0) (hi := 3) (by omega) (by omega)) with c | ⟨room, -, hr, rfl⟩
  · refine ww0 hR (fm := fun ρ => fX10_needs ρ (x + 36) a1 a2) ⟨-1, ?_, ?_⟩
    · unfold fX9_needs fX0_changeNeed
      simp only [Option.bind_some, n10, if_false, X1, F.1.1, x_room_out ρ c, z00, if_true]
    · show fX10_needs ρ (x + 36) a1 a2 = _
      unfold fX10_needs
      simp only [Option.bind_some, n10, if_false, m_room_out ρ c, z00, if_true]
  have hr : room < 4 := by omega
  rcases or_assoc.mpr (rng a2 (lo := 0) (hi := 20) (by omega) (by omega)) with c | ⟨v, -, hv, rfl⟩
  · refine ww0 hR (fm := fun ρ => fX10_needs ρ (x + 36) (nI room) a2) ⟨-1, ?_, ?_⟩
    · unfold fX9_needs fX0_changeNeed
      simp only [Option.bind_some, n10, if_false, X1, F.1.1, x_room_in ρ hr, show fX0_isWithin ρ a2 0 20 = some (nI 0) from x_within_out ρ c, z00, if_true]
    · show fX10_needs ρ (x + 36) (nI room) a2 = _
      unfold fX10_needs
      simp only [Option.bind_some, n10, if_false, m_room_in ρ hr, show fX10_isIn ρ a2 0 20 = some (nI 0) from m_isIn_out ρ c, z00, if_true]
  obtain ⟨ρ1, e1, e2, e3⟩ := x_need I.N ok hr hv
  refine wwN (fm := fun ρ => fX10_needs ρ (x + 36) (nI room) (nI v)) I gd sh _ _ (ok.setN (j := 5 + room) (v := v) (by omega) (by omega) (by omega) (by omega) (by omega) (by omega) (fun _ => hv)) (bt.setN (by omega) (by omega)) (nI (n.1 (5 + room))) ⟨ρ1, ?_, e2, e3⟩ (fun ρ1 I1 A1 O1 => ?_)
  · unfold fX9_needs
    simp only [Option.bind_some, n10, if_false, X1, F.1.1, e1]
  · have G1 := A1.f ok.1.1
    obtain ⟨ρ2, y1, y2, y3⟩ := A1.set (j := 5 + room) (by omega) (by omega) v
    refine ⟨ρ2, ?_, y2, y3⟩
    show fX10_needs ρ1 (x + 36) (nI room) (nI v) = _
    unfold fX10_needs
    simp only [Option.bind_some, n10, if_false, m_room_in ρ1 hr, show fX10_isIn ρ1 (nI v) 0 20 = some (nI 1) from m_isIn_in ρ1 (lo := 0) (hi := 20) (by omega) hv (by omega), O1.s, fa_lit 5, nI_add, G1.1 (5 + room) (by omega), y1]
theorem sim_set : Sim_set Rel := by
  intro ρ z0 x q o a1 a2 hR hf
  obtain ⟨z, h, n, i, d, sf, se, mo, a, b, g, w, u, t, sk, sm, ⟨hx, hq, ho⟩, I, gd, sh⟩ := id hR
  subst hq ho
  subst hx
  obtain ⟨⟨g1, g2⟩, ⟨ea, ok, bt⟩, gi⟩ := id gd
  have hA : ArrR ρ (x + 37) n.1 := ea ▸ I.A
  have F := I.N.f ok.1.1
  have G := hA.f ok.1.1
  have X1 : gR ρ 2 x 0 = some (x + 1) := gR_at I.X rfl
  have M0 : ckO ρ 3 (x + 36) = some () := ckO_at I.O
  have M1 : gR ρ 3 (x + 36) 0 = some (x + 37) := gR_at I.O rfl
  rcases or_assoc.mpr (rng a1 (lo := 0) (hi := 1) (by omega) (by omega)) with c | ⟨p, -, hp, rfl⟩
  · refine ww0 hR (fm := fun ρ => fX10_set ρ (x + 36) a1 a2) ⟨-1, ?_, ?_⟩
    · unfold fX9_set
      rw [if_neg (show ¬ a1 = (0 : Int32) from of_eq_false (ne_out c (show 0 ≤ 1 by omega) (by omega))), if_neg (show ¬ a1 = (1 : Int32) from of_eq_false (ne_out c (show 1 ≤ 1 by omega) (by omega)))]
    · show fX10_set ρ (x + 36) a1 a2 = _
      unfold fX10_set
      simp only [Option.bind_some, n10, if_false, show fX10_isIn ρ a1 0 1 = some (nI 0) from m_isIn_out ρ c, z00, if_true]
  rcases (show p = 0 ∨ p = 1 by omega) with rfl | rfl
  · rcases or_assoc.mpr (rng a2 (lo := 0) (hi := 23) (by omega) (by omega)) with c | ⟨v, -, hv, rfl⟩
    · refine ww0 hR (fm := fun ρ => fX10_set ρ (x + 36) (nI 0) a2) ⟨-1, ?_, ?_⟩
      · unfold fX9_set fX0_changeHour
        simp only [Option.bind_some, n10, if_false, z00, if_true, X1, F.1.1, x_hour_out ρ c]
      · show fX10_set ρ (x + 36) (nI 0) a2 = _
        unfold fX10_set
        simp only [Option.bind_some, n10, if_false, show fX10_isIn ρ (nI 0) 0 1 = some (nI 1) from m_z1_in ρ (by omega), m_hour_out ρ c, z00, if_true]
    have hv : v < 24 := by omega
    obtain ⟨ρ1, e1, e2, e3⟩ := x_hourC I.N ok hv
    refine wwN (fm := fun ρ => fX10_set ρ (x + 36) (nI 0) (nI v)) I gd sh _ _ (ok.setN (j := 1) (v := v) (by omega) (by omega) (by omega) (by omega) (by omega) (by omega) (by omega)) (bt.setN (by omega) (by omega)) (nI (n.1 1)) ⟨ρ1, ?_, e2, e3⟩ (fun ρ1 I1 A1 O1 => ?_)
    · unfold fX9_set
      simp only [Option.bind_some, n10, if_false, X1, F.1.1, e1, z00, if_true]
    · have G1 := A1.f ok.1.1
      obtain ⟨ρ2, y1, y2, y3⟩ := A1.set (j := 1) (by omega) (by omega) v
      refine ⟨ρ2, ?_, y2, y3⟩
      show fX10_set ρ1 (x + 36) (nI 0) (nI v) = _
      unfold fX10_set fX10_set_35 fX10_set_44
      simp only [Option.bind_some, n10, if_false, show fX10_isIn ρ1 (nI 0) 0 1 = some (nI 1) from m_z1_in ρ1 (by omega), m_hour_in ρ1 hv, z00, if_true, O1.s, show ldI ρ1 (x + 37) 1 = some (nI (n.1 1)) from G1.1 1 (by omega), show stI ρ1 (x + 37) 1 (nI v) = some ρ2 from y1]
  · rcases or_assoc.mpr (rng a2 (lo := 1) (hi := 9) (by omega) (by omega)) with c | ⟨v, hv, hv2, rfl⟩
    · refine ww0 hR (fm := fun ρ => fX10_set ρ (x + 36) (nI 1) a2) ⟨-1, ?_, ?_⟩
      · unfold fX9_set fX0_changeRate
        simp only [Option.bind_some, n10, if_false, show (nI 1 = (1 : Int32)) = True from rfl |> eq_true, z00, if_true, X1, F.1.1, show fX0_isWithin ρ a2 1 9 = some (nI 0) from x_within_out ρ c]
      · show fX10_set ρ (x + 36) (nI 1) a2 = _
        unfold fX10_set
        simp only [Option.bind_some, n10, if_false, show fX10_isIn ρ (nI 1) 0 1 = some (nI 1) from m_z1_in ρ (by omega), show fX10_isIn ρ a2 1 9 = some (nI 0) from m_isIn_out ρ c, z00, if_true]
    obtain ⟨ρ1, e1, e2, e3⟩ := x_rateC I.N ok hv hv2
    refine wwN (fm := fun ρ => fX10_set ρ (x + 36) (nI 1) (nI v)) I gd sh _ _ (ok.setN (j := 4) (v := v) (by omega) (by omega) (by omega) (by omega) (by omega) (by omega) (by omega)) (bt.setN (by omega) (by omega)) (nI (n.1 4)) ⟨ρ1, ?_, e2, e3⟩ (fun ρ1 I1 A1 O1 => ?_)
    · unfold fX9_set
      simp only [Option.bind_some, n10, if_false, show (nI 1 = (1 : Int32)) = True from rfl |> eq_true, X1, F.1.1, e1, if_true]
    · have G1 := A1.f ok.1.1
      obtain ⟨ρ2, y1, y2, y3⟩ := A1.set (j := 4) (by omega) (by omega) v
      refine ⟨ρ2, ?_, y2, y3⟩
      show fX10_set ρ1 (x + 36) (nI 1) (nI v) = _
      unfold fX10_set fX10_set_35 fX10_set_44
      simp only [Option.bind_some, n10, if_false, show fX10_isIn ρ1 (nI 1) 0 1 = some (nI 1) from m_z1_in ρ1 (by omega), show fX10_isIn ρ1 (nI v) 1 9 = some (nI 1) from m_isIn_in ρ1 (lo := 1) (hi := 9) hv hv2 (by omega), O1.s, show ldI ρ1 (x + 37) 4 = some (nI (n.1 4)) from G1.1 4 (by omega), show stI ρ1 (x + 37) 4 (nI v) = some ρ2 from y1]
theorem sim_years : Sim_years Rel := by
  intro ρ z0 x q o a1 hR hf
  obtain ⟨z, h, n, i, d, sf, se, mo, a, b, g, w, u, t, sk, sm, ⟨hx, hq, ho⟩, I, gd, sh⟩ := id hR
  subst hq ho
  subst hx
  obtain ⟨⟨g1, g2⟩, ⟨ea, ok, bt⟩, gi⟩ := id gd
  have hA : ArrR ρ (x + 37) n.1 := ea ▸ I.A
  have F := I.N.f ok.1.1
  have G := hA.f ok.1.1
  have X1 : gR ρ 2 x 0 = some (x + 1) := gR_at I.X rfl
  have M0 : ckO ρ 3 (x + 36) = some () := ckO_at I.O
  have M1 : gR ρ 3 (x + 36) 0 = some (x + 37) := gR_at I.O rfl
  rcases or_assoc.mpr (rng a1 (lo := 1) (hi := 99) (by omega) (by omega)) with c | ⟨v, hv, hv2, rfl⟩
  · refine ww0 hR (fm := fun ρ => fX10_years ρ (x + 36) a1) ⟨-1, ?_, ?_⟩
    · unfold fX9_years fX0_passYears
      simp only [Option.bind_some, n10, if_false, X1, F.1.1, show fX0_isWithin ρ a1 1 99 = some (nI 0) from x_within_out ρ c, z00, if_true]
    · show fX10_years ρ (x + 36) a1 = _
      unfold fX10_years
      simp only [Option.bind_some, n10, if_false, show fX10_isIn ρ a1 1 99 = some (nI 0) from m_isIn_out ρ c, z00, if_true]
  have y3 := ok.1.2.2.1
  by_cases c : n.1 2 + v ≤ 999
  · obtain ⟨ρ1, e1, e2, e3⟩ := x_years I.N bt ok hv hv2 c
    refine wwN (fm := fun ρ => fX10_years ρ (x + 36) (nI v)) I gd sh _ _ ((ok.setN (j := 3) (v := oY n.1 v) (by omega) (by omega) (by omega) (by omega) (fun _ => oY_le ok v) (by omega) (by omega)).setN (j := 2) (v := n.1 2 + v) (by omega) (by omega) (by omega) (by omega) (by omega) (by omega) (by omega)) ((bt.setN (by omega) (by omega)).setN (by omega) (by omega)) (nI (oY n.1 v)) ⟨ρ1, ?_, e2, e3⟩ (fun ρ1 I1 A1 O1 => ?_)
    · unfold fX9_years
      simp only [Option.bind_some, n10, if_false, X1, F.1.1, e1]
    · have G1 := A1.f ok.1.1
      obtain ⟨ρ2, y1, y2, y3⟩ := m_yearsOn A1 O1 ok hv2
      refine ⟨ρ2, ?_, y2, y3⟩
      have G2 := y3.f (by rw [setE_n (by omega), setE_n (by omega)]; exact ok.1.1)
      show fX10_years ρ1 (x + 36) (nI v) = _
      unfold fX10_years
      have M2 : gR ρ2 3 (x + 36) 0 = some (x + 37) := gR_at ((y2 (x + 36) (by omega)).trans O1) rfl
      simp only [Option.bind_some, n10, if_false, show fX10_isIn ρ1 (nI v) 1 99 = some (nI 1) from m_isIn_in ρ1 (lo := 1) (hi := 99) hv hv2 (by omega), O1.s, fa_lit 2, G1.1 2 (by omega), nI_add]
      rw [if_pos (show nI _ ≤ (999 : Int32) from nI_le (b := 999) c (by omega))]
      simp only [Option.bind_some, n10, if_false, ckO_at O1, y1, M2, fa_lit 3, G2.1 3 (by omega), setE_n (show 3 ≠ 2 by omega), setE_s]
  · refine ww0 hR (fm := fun ρ => fX10_years ρ (x + 36) (nI v)) ⟨-3, ?_, ?_⟩
    · unfold fX9_years
      simp only [Option.bind_some, n10, if_false, X1, F.1.1, x_years_no I.N ok hv hv2 (show 999 < n.1 2 + v by omega)]
    · show fX10_years ρ (x + 36) (nI v) = _
      unfold fX10_years
      simp only [Option.bind_some, n10, if_false, show fX10_isIn ρ (nI v) 1 99 = some (nI 1) from m_isIn_in ρ (lo := 1) (hi := 99) hv hv2 (by omega), M1, fa_lit 2, G.1 2 (by omega), nI_add]
      rw [if_neg (show ¬ nI _ ≤ (999 : Int32) from nI_ge (a := 999) (by omega) (by omega))]
theorem sim_pays : Sim_pays Rel := by
  intro ρ z0 x q o a1 hR hf
  obtain ⟨z, h, n, i, d, sf, se, mo, a, b, g, w, u, t, sk, sm, ⟨hx, hq, ho⟩, I, gd, sh⟩ := id hR
  subst hq ho
  subst hx
  obtain ⟨⟨g1, g2⟩, ⟨ea, ok, bt⟩, gi⟩ := id gd
  have hA : ArrR ρ (x + 37) n.1 := ea ▸ I.A
  have F := I.N.f ok.1.1
  have G := hA.f ok.1.1
  have X1 : gR ρ 2 x 0 = some (x + 1) := gR_at I.X rfl
  have M0 : ckO ρ 3 (x + 36) = some () := ckO_at I.O
  have M1 : gR ρ 3 (x + 36) 0 = some (x + 37) := gR_at I.O rfl
  have d4 := ok.1.2.2.2.1
  rcases or_assoc.mpr (rng a1 (lo := 0) (hi := 999) (by omega) (by omega)) with c | ⟨v, -, hv, rfl⟩
  · refine ww0 hR (fm := fun ρ => fX10_pays ρ (x + 36) a1) ⟨-1, ?_, ?_⟩
    · unfold fX9_pays fX0_payOff
      simp only [Option.bind_some, n10, if_false, X1, F.1.1, x_pay_out ρ c, z00, if_true]
    · show fX10_pays ρ (x + 36) a1 = _
      unfold fX10_pays
      simp only [Option.bind_some, n10, if_false, show fX10_isIn ρ a1 0 999 = some (nI 0) from m_isIn_out ρ c, z00, if_true]
  by_cases c : v ≤ n.1 3
  · obtain ⟨ρ1, e1, e2, e3⟩ := x_payC I.N ok hv c
    refine wwN (fm := fun ρ => fX10_pays ρ (x + 36) (nI v)) I gd sh _ _ (ok.setN (j := 3) (v := n.1 3 - v) (by omega) (by omega) (by omega) (by omega) (by omega) (by omega) (by omega)) (bt.setN (by omega) (by omega)) (nI (n.1 3 - v)) ⟨ρ1, ?_, e2, e3⟩ (fun ρ1 I1 A1 O1 => ?_)
    · unfold fX9_pays
      simp only [Option.bind_some, n10, if_false, X1, F.1.1, e1]
    · have G1 := A1.f ok.1.1
      obtain ⟨ρ2, y1, y2, y3⟩ := A1.set (j := 3) (by omega) (by omega) (n.1 3 - v)
      refine ⟨ρ2, ?_, y2, y3⟩
      have G2 := y3.f (by rw [setE_n (by omega)]; exact ok.1.1)
      show fX10_pays ρ1 (x + 36) (nI v) = _
      unfold fX10_pays
      have M2 : gR ρ2 3 (x + 36) 0 = some (x + 37) := gR_at ((y2 (x + 36) (by omega)).trans O1) rfl
      simp only [Option.bind_some, n10, if_false, show fX10_isIn ρ1 (nI v) 0 999 = some (nI 1) from m_isIn_in ρ1 (lo := 0) (hi := 999) (by omega) hv (by omega), O1.s, show ldI ρ1 (x + 37) 3 = some (nI (n.1 3)) from G1.1 3 (by omega), nI_le c (show n.1 3 < 2 ^ 31 by omega), if_true, pk_sub c, show stI ρ1 (x + 37) 3 (nI (n.1 3 - v)) = some ρ2 from y1, M2, show ldI ρ2 (x + 37) 3 = some (nI (setE n.1 3 (n.1 3 - v) 3)) from G2.1 3 (by omega), setE_s]
  · refine ww0 hR (fm := fun ρ => fX10_pays ρ (x + 36) (nI v)) ⟨-3, ?_, ?_⟩
    · unfold fX9_pays
      simp only [Option.bind_some, n10, if_false, X1, F.1.1, x_pay_no I.N ok hv (by omega)]
    · show fX10_pays ρ (x + 36) (nI v) = _
      unfold fX10_pays
      simp only [Option.bind_some, n10, if_false, show fX10_isIn ρ (nI v) 0 999 = some (nI 1) from m_isIn_in ρ (lo := 0) (hi := 999) (by omega) hv (by omega), M1, fa_lit 3, G.1 3 (by omega), nI_ge (show n.1 3 < v by omega) (show v < 2 ^ 31 by omega)]
