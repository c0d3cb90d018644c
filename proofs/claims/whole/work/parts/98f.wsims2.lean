/-! PURE: builds, image, restore, paidOff, judge. -/
theorem HouseR.f0 {ρ : Rho} {a B : Nat} {r : Nat → Nat} (H : HouseR ρ a r B) : ckO ρ 0 a = some () ∧ True := by
  obtain ⟨f1, f2, f3, f4, f5, h0, -⟩ := H
  exact ⟨ckO_at h0, trivial⟩
section WW
variable {ρ : Rho} {x : Nat} {h : Nat} {n i d : HT} {sf se : Nat → Nat → Int32} {mo : Nat → Int32} {a b g w : Nat → Nat} {u t : Nat → Int32} {sk : Nat → Nat → Int32} {sm : Nat → Int32}
theorem Inv.sg (I : Inv x h n i d sf se mo a b g w u t sk sm ρ) : SG ρ x (x + 36) := ⟨gR_at I.X rfl, gR_at I.O rfl, gR_at I.O rfl, gR_at I.O rfl, gR_at I.O rfl, gR_at I.O rfl, gR_at I.O rfl⟩
theorem rwM {fx : Option Int32} {fm : Option (Int32 × Rho)} (I : Inv x h n i d sf se mo a b g w u t sk sm ρ) (gd : GoodR h n i mo a g) (sh : ShOK sf se sk sm) (H : ∃ v ρ2 b', fx = some v ∧ fm = some (v, ρ2) ∧ Fr ρ ρ2 (x + 38) 1 ∧ ArrR ρ2 (x + 38) b') : ∃ (ux : Unit) (r : Int32) (um : Unit) (ρ2 : Rho), ckO ρ 2 x = some ux ∧ fx = some r ∧ ckO ρ 3 (x + 36) = some um ∧ fm = some (r, ρ2) ∧ Rel ρ2 x (x + 36) (x + 49) := by
  obtain ⟨v, ρ2, b', h1, h2, h3, h4⟩ := H
  exact ⟨(), v, (), ρ2, ckO_at I.X, h1, ckO_at I.O, h2, x, h, n, i, d, sf, se, mo, a, b', g, w, u, t, sk, sm, ⟨rfl, rfl, rfl⟩, I.uB (fun j hj hc => h3 (x + j) (by omega)) h4, gd, sh⟩
end WW
theorem MO.pt {ρ : Rho} {z : Nat} {mo : Nat → Int32} (h : MO ρ z mo) {k j : Nat} (hk : (k = 4 ∧ j = 0) ∨ (k = 5 ∧ j = 1) ∨ (k = 6 ∧ j = 2) ∨ (k = 7 ∧ j = 3) ∨ (k = 10 ∧ j = 4) ∨ (k = 11 ∧ j = 5) ∨ (k = 18 ∧ j = 6)) (v : Int32) : ∃ ρ', ptV ρ 3 (z + 36) k (.int v) = some ρ' ∧ Fr ρ ρ' (z + 36) 1 ∧ MO ρ' z (upd mo j v) := by
  refine ⟨_, ptV_at h (by show _ < 19; omega), Fr.set (by omega) (by omega), ?_⟩
  unfold MO
  rw [rset_s]
  rcases hk with ⟨rfl, rfl⟩ | ⟨rfl, rfl⟩ | ⟨rfl, rfl⟩ | ⟨rfl, rfl⟩ | ⟨rfl, rfl⟩ | ⟨rfl, rfl⟩ | ⟨rfl, rfl⟩ <;> rfl
theorem XO.n0 {ρ : Rho} {z h : Nat} (H : XO ρ z h) : gR ρ 2 z 0 = some (z + 1) := gR_at H rfl
theorem XO.n1 {ρ : Rho} {z h : Nat} (H : XO ρ z h) : gR ρ 2 z 1 = some (z + 7) := gR_at H rfl
theorem XO.n2 {ρ : Rho} {z h : Nat} (H : XO ρ z h) : gR ρ 2 z 2 = some (z + 13) := gR_at H rfl
theorem XO.h4 {ρ : Rho} {z h : Nat} (H : XO ρ z h) : gI ρ 2 z 4 = some (nI h) := gI_at H rfl
theorem MO.g {ρ : Rho} {z : Nat} {mo : Nat → Int32} (h : MO ρ z mo) : gR ρ 3 (z + 36) 2 = some (z + 39) := gR_at h rfl
theorem MO.h0 {ρ : Rho} {z : Nat} {mo : Nat → Int32} (h : MO ρ z mo) : gI ρ 3 (z + 36) 4 = some (mo 0) := gI_at h rfl
theorem MO.h5 {ρ : Rho} {z : Nat} {mo : Nat → Int32} (h : MO ρ z mo) : gI ρ 3 (z + 36) 11 = some (mo 5) := gI_at h rfl
theorem x_add_full {ρ : Rho} {a B : Nat} {r : Nat → Nat} {k f room h : Nat} (H : HouseR ρ a r B) (ok : OKr r) (h7 : r 0 = 8) (hk : k < 8) (hf : f < 10) (hr : room < 4) (hh : h < 24) : fX0_addWindow ρ a (nI k) (nI f) (nI room) (nI h) = some (-2, ρ) := by
  have F := H.f ok.1.1
  unfold fX0_addWindow
  simp only [Option.bind_some, n10, if_false, x_kind_in ρ hk, x_fig_in ρ hf, x_room_in ρ hr, x_hour_in ρ hh, F.2.1.1, h7, show ¬ nI 8 < (8 : Int32) by decide]
theorem sim_builds : Sim_builds Rel := by
  intro ρ z0 x q o a1 a2 a3 hR hf
  obtain ⟨z, h, n, i, d, sf, se, mo, a, b, g, w, u, t, sk, sm, ⟨hx, hq, ho⟩, I, gd, sh⟩ := id hR
  subst hq ho
  subst hx
  obtain ⟨⟨g1, g2⟩, ⟨ea, ok, bt⟩, gi⟩ := id gd
  have hA : ArrR ρ (x + 37) n.1 := ea ▸ I.A
  have F := I.N.f ok.1.1
  have G := hA.f ok.1.1
  have X1 : gR ρ 2 x 0 = some (x + 1) := gR_at I.X rfl
  have M0 : ckO ρ 3 (x + 36) = some () := ckO_at I.O
  have M1 : gR ρ 3 (x + 36) 0 = some (x + 37) := gR_at I.O rfl
  have T := I.sg
  rcases or_assoc.mpr (rng a2 (lo := 0) (hi := 3) (by omega) (by omega)) with c | ⟨room, -, hr, rfl⟩
  · refine ww0 hR (fm := fun ρ => fX10_builds ρ (x + 36) a1 a2 a3) ⟨-1, ?_, ?_⟩
    · unfold fX9_builds
      rcases or_assoc.mpr (rng a1 (lo := 0) (hi := 7) (by omega) (by omega)) with d | ⟨e, -, he, rfl⟩
      · rw [x_shelf_out ρ d, Option.bind_some, if_pos nI_0]
      · rw [x_shelf_in ρ (show e < 8 by omega), Option.bind_some, if_neg n10, x_room_out ρ c, Option.bind_some, if_pos nI_0]
    · show fX10_builds ρ (x + 36) a1 a2 a3 = _
      unfold fX10_builds
      rw [m_room_out ρ c, Option.bind_some, if_pos nI_0]
  have hr : room < 4 := by omega
  rcases or_assoc.mpr (rng a3 (lo := 0) (hi := 23) (by omega) (by omega)) with c | ⟨fa, -, hfa, rfl⟩
  · refine ww0 hR (fm := fun ρ => fX10_builds ρ (x + 36) a1 (nI room) a3) ⟨-1, ?_, ?_⟩
    · unfold fX9_builds
      rcases or_assoc.mpr (rng a1 (lo := 0) (hi := 7) (by omega) (by omega)) with d | ⟨e, -, he, rfl⟩
      · rw [x_shelf_out ρ d, Option.bind_some, if_pos nI_0]
      · rw [x_shelf_in ρ (show e < 8 by omega), Option.bind_some, if_neg n10, x_room_in ρ hr, Option.bind_some, if_neg n10, x_hour_out ρ c, Option.bind_some, if_pos nI_0]
    · show fX10_builds ρ (x + 36) a1 (nI room) a3 = _
      unfold fX10_builds
      rw [m_room_in ρ hr, Option.bind_some, if_neg n10, m_hour_out ρ c, Option.bind_some, if_pos nI_0]
  have hfa : fa < 24 := by omega
  rcases or_assoc.mpr (rng a1 (lo := 0) (hi := 7) (by omega) (by omega)) with c | ⟨e, -, he, rfl⟩
  · refine ww0 hR (fm := fun ρ => fX10_builds ρ (x + 36) a1 (nI room) (nI fa)) ⟨-1, ?_, ?_⟩
    · unfold fX9_builds
      rw [x_shelf_out ρ c, Option.bind_some, if_pos nI_0]
    · show fX10_builds ρ (x + 36) a1 (nI room) (nI fa) = _
      unfold fX10_builds
      simp only [Option.bind_some, n10, if_false, m_room_in ρ hr, m_hour_in ρ hfa, M0, m_wrK_out ρ (x + 36) c, show ¬ ((-1 : Int32) = 0) by decide]
  have he : e < 8 := by omega
  have Se : SF ρ x (x + 36) sf se sk sm e := SF.mk I.S I.K he
  obtain ⟨cc, hc, c1, c2⟩ := sh_c sh he
  have hX : ∀ v, fX9_builds ρ x (nI e) (nI room) (nI fa) = (if (0 : Int32) ≤ rvK cc then v else some (rvK cc, ρ)) ↔ fX9_builds ρ x (nI e) (nI room) (nI fa) = (if (0 : Int32) ≤ rvK cc then v else some (rvK cc, ρ)) := fun v => Iff.rfl
  rcases (show cc = 0 ∨ cc = 1 ∨ cc = 2 by omega) with rfl | rfl | rfl
  · refine ww0 hR (fm := fun ρ => fX10_builds ρ (x + 36) (nI e) (nI room) (nI fa)) ⟨-11, ?_, ?_⟩
    · unfold fX9_builds
      simp only [Option.bind_some, n10, if_false, x_shelf_in ρ he, x_room_in ρ hr, x_hour_in ρ hfa, T.1, Se.1.1, Se.1.2.1, x_refK Se hc c1, show rvK 0 = -11 from rfl, show ¬ ((0 : Int32) ≤ -11) by decide]
    · show fX10_builds ρ (x + 36) (nI e) (nI room) (nI fa) = _
      unfold fX10_builds
      simp only [Option.bind_some, n10, if_false, m_room_in ρ hr, m_hour_in ρ hfa, M0, m_wrK T Se he hc c2, show rvK 0 = -11 from rfl, show ¬ ((-11 : Int32) = 0) by decide]
  · obtain ⟨k, f, ⟨hk, hf2⟩, k1, k2, k3, k4⟩ := sh_k sh he c1
    by_cases c8 : n.1 0 = 8
    · refine ww0 hR (fm := fun ρ => fX10_builds ρ (x + 36) (nI e) (nI room) (nI fa)) ⟨-2, ?_, ?_⟩
      · unfold fX9_builds
        simp only [Option.bind_some, n10, if_false, x_shelf_in ρ he, x_room_in ρ hr, x_hour_in ρ hfa, T.1, X1, Se.1.1, Se.1.2.1, x_refK Se hc c1, rvK1, le00, if_true, Se.1.2.2.1.2.1, k1, Se.1.2.2.1.2.2.1, k2, F.1.1, x_add_full I.N ok c8 hk hf2 hr hfa]
      · show fX10_builds ρ (x + 36) (nI e) (nI room) (nI fa) = _
        unfold fX10_builds
        simp only [Option.bind_some, n10, if_false, m_room_in ρ hr, m_hour_in ρ hfa, M0, m_wrK T Se he hc c2, rvK1, if_true, M1, show ldI ρ (x + 37) 0 = some (nI (n.1 0)) from G.1 0 (by omega), c8, show (nI 8 = (8 : Int32)) = True from eq_true rfl]
    · have h7 : n.1 0 < 8 := by have := ok.1.1; omega
      obtain ⟨ρ1, e1, e2, e3⟩ := x_add I.N ok h7 hk hf2 hr hfa
      refine wwN (fm := fun ρ => fX10_builds ρ (x + 36) (nI e) (nI room) (nI fa)) I gd sh _ _ (addW_ok ok h7 hk hf2 hr hfa) (addW_bits bt) (nI (n.1 0)) ⟨ρ1, ?_, e2, e3⟩ (fun ρ1 I1 A1 O1 => ?_)
      · unfold fX9_builds
        simp only [Option.bind_some, n10, if_false, x_shelf_in ρ he, x_room_in ρ hr, x_hour_in ρ hfa, T.1, X1, Se.1.1, Se.1.2.1, x_refK Se hc c1, rvK1, le00, if_true, Se.1.2.2.1.2.1, k1, Se.1.2.2.1.2.2.1, k2, F.1.1, e1]
      · have G1 := A1.f ok.1.1
        have T1 := I1.sg
        have S1 : SF ρ1 x (x + 36) sf se sk sm e := SF.mk I1.S I1.K he
        obtain ⟨ρ2, y1, y2, y3⟩ := m_adds (k := k) (f := f) (room := room) (h := fa) A1 O1 h7
        refine ⟨ρ2, ?_, y2, y3⟩
        have G2 := y3.f (show n.1 0 + 1 ≤ 8 by omega)
        have M2 : gR ρ2 3 (x + 36) 0 = some (x + 37) := gR_at ((y2 (x + 36) (by omega)).trans O1) rfl
        have g20 : ldI ρ2 (x + 37) 0 = some (nI (n.1 0 + 1)) := G2.1 0 (by omega)
        show fX10_builds ρ1 (x + 36) (nI e) (nI room) (nI fa) = _
        unfold fX10_builds
        simp only [Option.bind_some, n10, if_false, m_room_in ρ1 hr, m_hour_in ρ1 hfa, ckO_at O1, m_wrK T1 S1 he hc c2, rvK1, if_true, O1.s, show ldI ρ1 (x + 37) 0 = some (nI (n.1 0)) from G1.1 0 (by omega)]
        rw [if_neg (show ¬ nI (n.1 0) = (8 : Int32) from fun q => c8 ((nI_eq (a := n.1 0) (b := 8) (by omega) (by omega)).mp q))]
        simp only [Option.bind_some, n10, if_false, T1.2.2.1, S1.2.1.2.1, k3, T1.2.2.2.1, S1.2.1.2.2.1, k4, y1, M2, g20, nI_pred]
  · refine ww0 hR (fm := fun ρ => fX10_builds ρ (x + 36) (nI e) (nI room) (nI fa)) ⟨-12, ?_, ?_⟩
    · unfold fX9_builds
      simp only [Option.bind_some, n10, if_false, x_shelf_in ρ he, x_room_in ρ hr, x_hour_in ρ hfa, T.1, Se.1.1, Se.1.2.1, x_refK Se hc c1, show rvK 2 = -12 from rfl, show ¬ ((0 : Int32) ≤ -12) by decide]
    · show fX10_builds ρ (x + 36) (nI e) (nI room) (nI fa) = _
      unfold fX10_builds
      simp only [Option.bind_some, n10, if_false, m_room_in ρ hr, m_hour_in ρ hfa, M0, m_wrK T Se he hc c2, show rvK 2 = -12 from rfl, show ¬ ((-12 : Int32) = 0) by decide]
theorem sim_image : Sim_image Rel := by
  intro ρ z0 x q o  hR hf
  obtain ⟨z, h, n, i, d, sf, se, mo, a, b, g, w, u, t, sk, sm, ⟨hx, hq, ho⟩, I, gd, sh⟩ := id hR
  subst hq ho
  subst hx
  obtain ⟨⟨g1, g2⟩, ⟨ea, ok, bt⟩, gi⟩ := id gd
  have hA : ArrR ρ (x + 37) n.1 := ea ▸ I.A
  have F := I.N.f ok.1.1
  have G := hA.f ok.1.1
  have X1 : gR ρ 2 x 0 = some (x + 1) := gR_at I.X rfl
  have M0 : ckO ρ 3 (x + 36) = some () := ckO_at I.O
  have M1 : gR ρ 3 (x + 36) 0 = some (x + 37) := gR_at I.O rfl
  obtain ⟨ρ1, e1, e2, e3⟩ := x_become I.N I.I (by omega) ok.1.1
  have I1 := I.uI (i' := n) (fun j hj hc => e2 (x + j) (by omega)) e3
  have q1 : ptV ρ1 2 x 4 (.int 1) = some (rset ρ1 x (oC 2 [.ref (x + 1), .ref (x + 7), .ref (x + 13), .ref (x + 19), .int (nI 1)])) := ptV_at I1.X (by show 4 < 5; omega)
  have I2 : Inv x 1 n n d sf se mo a b g w u t sk sm (rset ρ1 x (oC 2 [.ref (x + 1), .ref (x + 7), .ref (x + 13), .ref (x + 19), .int (nI 1)])) := I1.uX (h' := 1) (fun j hj hc => rset_n (by omega)) rset_s
  generalize rset ρ1 x (oC 2 [.ref (x + 1), .ref (x + 7), .ref (x + 13), .ref (x + 19), .int (nI 1)]) = σ at q1 I2
  have F2 := I2.N.f ok.1.1
  have A2 : ArrR σ (x + 37) n.1 := ea ▸ I2.A
  obtain ⟨ρ3, y1, y2, y3⟩ := m_copies A2 ok.1.1 I2.G (by omega)
  have I3 := I2.uG (g' := n.1) (fun j hj hc => y2 (x + j) (by omega)) y3
  obtain ⟨ρ4, w1, w2, w3⟩ := I3.O.pt (k := 4) (j := 0) (by omega) 1
  have I4 := I3.uO (fun j hj hc => w2 (x + j) (by omega)) w3
  have A4 : ArrR ρ4 (x + 37) n.1 := ea ▸ I4.A
  have G4 := A4.f ok.1.1
  refine ⟨(), nI (n.1 2), σ, (), ρ4, ckO_at I.X, ?_, ckO_at I2.O, ?_, x, 1, n, n, d, sf, se, _, a, b, n.1, w, u, t, sk, sm, ⟨rfl, rfl, rfl⟩, I4, ⟨⟨Nat.le_refl _, rfl⟩, ⟨ea, ok, bt⟩, fun _ => ⟨rfl, ok, bt⟩⟩, sh⟩
  · unfold fX9_image
    simp only [Option.bind_some, n10, if_false, I.X.n1, I.X.n0, ckO_at I.X, (I.I.f0).1, e1, q1, I2.X.n0, F2.2.1.2.2.2.1]
  · unfold fX10_image
    have g2 : ldI ρ4 (x + 37) 2 = some (nI (n.1 2)) := G4.1 2 (by omega)
    simp only [Option.bind_some, n10, if_false, I2.O.s, I2.O.g, y1, w1, I4.O.s, g2]
theorem sim_restore : Sim_restore Rel := by
  intro ρ z0 x q o  hR hf
  obtain ⟨z, h, n, i, d, sf, se, mo, a, b, g, w, u, t, sk, sm, ⟨hx, hq, ho⟩, I, gd, sh⟩ := id hR
  subst hq ho
  subst hx
  obtain ⟨⟨g1, g2⟩, ⟨ea, ok, bt⟩, gi⟩ := id gd
  have hA : ArrR ρ (x + 37) n.1 := ea ▸ I.A
  have F := I.N.f ok.1.1
  have G := hA.f ok.1.1
  have X1 : gR ρ 2 x 0 = some (x + 1) := gR_at I.X rfl
  have M0 : ckO ρ 3 (x + 36) = some () := ckO_at I.O
  have M1 : gR ρ 3 (x + 36) 0 = some (x + 37) := gR_at I.O rfl
  rcases (show h = 0 ∨ h = 1 by omega) with rfl | rfl
  · refine ww0 hR (fm := fun ρ => fX10_restore ρ (x + 36)) ⟨-3, ?_, ?_⟩
    · unfold fX9_restore
      simp only [Option.bind_some, n10, if_false, I.X.h4, z00, if_true]
    · show fX10_restore ρ (x + 36) = _
      unfold fX10_restore
      simp only [Option.bind_some, n10, if_false, I.O.h0, g2, z00, if_true]
  · obtain ⟨eg, oki, bti⟩ := gi rfl
    obtain ⟨ρ1, e1, e2, e3⟩ := x_become I.I I.N (by omega) oki.1.1
    have I1 := I.uN (n' := i) (fun j hj hc => e2 (x + j) (by omega)) e3
    have F1 := I1.N.f oki.1.1
    have A1 : ArrR ρ1 (x + 39) i.1 := eg ▸ I1.G
    obtain ⟨ρ3, y1, y2, y3⟩ := m_copies A1 oki.1.1 I1.A (by omega)
    have I3 := I1.uA (a' := i.1) (fun j hj hc => y2 (x + j) (by omega)) y3
    have G3 := I3.A.f oki.1.1
    refine ⟨(), nI (i.1 2), ρ1, (), ρ3, ckO_at I.X, ?_, ckO_at I1.O, ?_, x, 1, i, i, d, sf, se, mo, i.1, b, g, w, u, t, sk, sm, ⟨rfl, rfl, rfl⟩, I3, ⟨⟨Nat.le_refl _, g2⟩, ⟨rfl, oki, bti⟩, fun _ => ⟨eg, oki, bti⟩⟩, sh⟩
    · unfold fX9_restore
      simp only [Option.bind_some, n10, if_false, I.X.h4, I.X.n0, I.X.n1, F.1.1, e1, I1.X.n0, F1.2.1.2.2.2.1]
    · unfold fX10_restore
      have g4 : ldI ρ3 (x + 37) 2 = some (nI (i.1 2)) := G3.1 2 (by omega)
      simp only [Option.bind_some, n10, if_false, I1.O.h0, g2, I1.O.g, I1.O.s, y1, I3.O.s, g4]
theorem sim_paidOff : Sim_paidOff Rel := by
  intro ρ z0 x q o a1 hR hf
  obtain ⟨z, h, n, i, d, sf, se, mo, a, b, g, w, u, t, sk, sm, ⟨hx, hq, ho⟩, I, gd, sh⟩ := id hR
  subst hq ho
  subst hx
  obtain ⟨⟨g1, g2⟩, ⟨ea, ok, bt⟩, gi⟩ := id gd
  have hA : ArrR ρ (x + 37) n.1 := ea ▸ I.A
  have F := I.N.f ok.1.1
  have G := hA.f ok.1.1
  have X1 : gR ρ 2 x 0 = some (x + 1) := gR_at I.X rfl
  have M0 : ckO ρ 3 (x + 36) = some () := ckO_at I.O
  have M1 : gR ρ 3 (x + 36) 0 = some (x + 37) := gR_at I.O rfl
  have hh := ok.1.2.1
  have d4 := ok.1.2.2.2.1
  refine rwM I gd sh ?_
  unfold fX9_paidOff fX10_paidOff
  rcases or_assoc.mpr (rng a1 (lo := 0) (hi := 999) (by omega) (by omega)) with c | ⟨p, -, hp, rfl⟩
  · refine ⟨-1, ρ, b, ?_, ?_, Fr.rf, I.B⟩
    · simp only [Option.bind_some, n10, if_false, x_pay_out ρ c, z00, if_true]
    · simp only [Option.bind_some, n10, if_false, show fX10_isIn ρ a1 0 999 = some (nI 0) from m_isIn_out ρ c, z00, if_true]
  obtain ⟨σ, y1, y2, y3⟩ := m_copies hA ok.1.1 I.B (by omega)
  have key : ∀ k n' m i o σ b', i + k = 61 → k < n' → k < m → Fr ρ σ (x + 38) 1 → ArrR σ (x + 38) b' → Agr n.1 b' → b' 3 = o → b' 1 = n.1 1 → o ≤ 99999 → ∃ V ρ2 b2, fX3_yearPaidOff_7 ρ n' (x + 1) (nI p) (nI o) (nI i) = some V ∧ fX10_paidOff_26 m σ (x + 36) (nI p) (nI i) = some (V, ρ2) ∧ Fr ρ ρ2 (x + 38) 1 ∧ ArrR ρ2 (x + 38) b2 := by
    intro k
    induction k with
    | zero =>
      intro n' m i o σ b' hi hn hm fr ha ag h3 h1 ho
      obtain ⟨n', rfl⟩ : ∃ p0, n' = p0 + 1 := ⟨n' - 1, by omega⟩
      obtain ⟨m, rfl⟩ : ∃ p0, m = p0 + 1 := ⟨m - 1, by omega⟩
      obtain rfl : i = 61 := by omega
      rw [fX3_yearPaidOff_7, fX10_paidOff_26, if_pos (show (60 : Int32) < nI 61 by decide), if_pos (show (60 : Int32) < nI 61 by decide)]
      exact ⟨_, σ, b', rfl, rfl, fr, ha⟩
    | succ k ih =>
      intro n' m i o σ b' hi hn hm fr ha ag h3 h1 ho
      obtain ⟨n', rfl⟩ : ∃ p0, n' = p0 + 1 := ⟨n' - 1, by omega⟩
      obtain ⟨m, rfl⟩ : ∃ p0, m = p0 + 1 := ⟨m - 1, by omega⟩
      have ok2 : OKr b' := ag.ok ok (by rw [h1]; exact hh) (by rw [h3]; exact ho)
      have G2 := ha.f ok2.1.1
      have g3 : ldI σ (x + 38) 3 = some (nI o) := by rw [← h3]; exact G2.1 3 (by omega)
      have O2 : MO σ x mo := (fr (x + 36) (by omega)).trans I.O
      rw [fX3_yearPaidOff_7, fX10_paidOff_26, if_neg (show ¬ (60 : Int32) < nI i from nI_nlt (b := i) (a := 60) (by omega) (by omega)), if_neg (show ¬ (60 : Int32) < nI i from nI_nlt (b := i) (a := 60) (by omega) (by omega))]
      by_cases c0 : o = 0
      · rw [c0, if_pos nI_0]
        rw [c0] at g3
        simp only [Option.bind_some, n10, if_false, O2.m, g3, z00, if_true]
        exact ⟨_, σ, b', rfl, rfl, fr, ha⟩
      · have hy := yrO_le (r := n.1) o (n.1 1)
        obtain ⟨σ1, s1, s2, s3⟩ := m_year ha ok2
        rw [h3, h1, ag.yr] at s3
        obtain ⟨σ2, t1, t2, t3⟩ := s3.set (j := 3) (by omega) (by omega) (yrO n.1 o (n.1 1) - p)
        have G3 := s3.f (by rw [setE_n (by omega)]; exact ok2.1.1)
        have g33 : ldI σ1 (x + 38) 3 = some (nI (yrO n.1 o (n.1 1))) := by rw [show (3 : Int32) = nI 3 from rfl, G3.1 3 (by omega), setE_s]
        have O3 : MO σ1 x mo := (s2 (x + 36) (by omega)).trans O2
        rw [if_neg (show ¬ nI o = 0 from nI_ne0 (by omega) (by omega))]
        simp only [Option.bind_some, n10, if_false, O2.m, g3, show ¬ nI o = 0 from nI_ne0 (by omega) (by omega), F.2.1.2.2.1, F.1.1, x_owedBehindYear F bt ok ho hh, s1, O3.m, g33, m_most0 σ1 (show yrO n.1 o (n.1 1) < 2 ^ 30 by omega) (show p < 2 ^ 30 by omega), show stI σ1 (x + 38) 3 (nI (yrO n.1 o (n.1 1) - p)) = some σ2 from t1, show (if (0 : Int32) < nI (yrO n.1 o (n.1 1)) - nI p then nI (yrO n.1 o (n.1 1)) - nI p else 0) = nI (yrO n.1 o (n.1 1) - p) from nI_maxsub (by omega) (by omega), nI_1]
        exact ih _ _ (i + 1) _ σ2 _ (by omega) (by omega) (by omega) (fr.tr (s2.tr t2)) t3 ((ag.set (Or.inr rfl)).set (Or.inr rfl)) setE_s (by rw [setE_n (by omega), setE_n (by omega)]; exact h1) (by omega)
  obtain ⟨V, ρ2, b2, k1, k2, k3, k4⟩ := key 61 FU FU 0 (n.1 3) σ n.1 (by omega) (FU_gt (by omega)) (FU_gt (by omega)) y2 y3 Agr.rf rfl rfl d4
  refine ⟨V, ρ2, b2, ?_, ?_, k3, k4⟩
  · unfold fX3_yearPaidOff
    simp only [Option.bind_some, n10, if_false, x_pay_in ρ hp, X1, F.2.1.2.2.2.2.1]
    rw [fa_lit 0, k1, Option.bind_some]
  · simp only [Option.bind_some, n10, if_false, show fX10_isIn ρ (nI p) 0 999 = some (nI 1) from m_isIn_in ρ (lo := 0) (hi := 999) (by omega) hp (by omega), I.O.s, I.O.m, y1]
    exact k2
theorem sim_judge : Sim_judge Rel := by
  intro ρ z0 x q o a1 hR hf
  obtain ⟨z, h, n, i, d, sf, se, mo, a, b, g, w, u, t, sk, sm, ⟨hx, hq, ho⟩, I, gd, sh⟩ := id hR
  subst hq ho
  subst hx
  obtain ⟨⟨g1, g2⟩, ⟨ea, ok, bt⟩, gi⟩ := id gd
  have hA : ArrR ρ (x + 37) n.1 := ea ▸ I.A
  have F := I.N.f ok.1.1
  have G := hA.f ok.1.1
  have X1 : gR ρ 2 x 0 = some (x + 1) := gR_at I.X rfl
  have M0 : ckO ρ 3 (x + 36) = some () := ckO_at I.O
  have M1 : gR ρ 3 (x + 36) 0 = some (x + 37) := gR_at I.O rfl
  have hh := ok.1.2.1
  have d4 := ok.1.2.2.2.1
  have T := I.sg
  refine rwM I gd sh ?_
  unfold fX9_judge fX10_judge
  rcases or_assoc.mpr (rng a1 (lo := 0) (hi := 7) (by omega) (by omega)) with c | ⟨e, -, he, rfl⟩
  · refine ⟨-1, ρ, b, ?_, ?_, Fr.rf, I.B⟩
    · rw [x_shelf_out ρ c, Option.bind_some, if_pos nI_0]
    · simp only [Option.bind_some, n10, if_false, M0, m_wrR_out ρ (x + 36) (-1) c, show ¬ ((-1 : Int32) = 0) by decide]
  have he : e < 8 := by omega
  have Se : SF ρ x (x + 36) sf se sk sm e := SF.mk I.S I.K he
  obtain ⟨cc, hc, c1, c2⟩ := sh_c sh he
  rcases (show cc = 0 ∨ cc = 1 ∨ cc = 2 by omega) with rfl | rfl | rfl
  · refine ⟨-11, ρ, b, ?_, ?_, Fr.rf, I.B⟩
    · simp only [Option.bind_some, n10, if_false, x_shelf_in ρ he, T.1, Se.1.1, Se.1.2.1, x_refR Se hc c1, show rvR 0 = -11 from rfl, show ¬ ((0 : Int32) ≤ -11) by decide]
    · simp only [Option.bind_some, n10, if_false, M0, m_wrR T Se he hc c2, show rvR 0 = -11 from rfl, show ¬ ((-11 : Int32) = 0) by decide]
  · refine ⟨-12, ρ, b, ?_, ?_, Fr.rf, I.B⟩
    · simp only [Option.bind_some, n10, if_false, x_shelf_in ρ he, T.1, Se.1.1, Se.1.2.1, x_refR Se hc c1, show rvR 1 = -12 from rfl, show ¬ ((0 : Int32) ≤ -12) by decide]
    · simp only [Option.bind_some, n10, if_false, M0, m_wrR T Se he hc c2, show rvR 1 = -12 from rfl, show ¬ ((-12 : Int32) = 0) by decide]
  obtain ⟨so, len, ⟨hso, hlen⟩, x3, x4, k3, k4, hE, -⟩ := sh_r sh he c1
  obtain ⟨σ, y1, y2, y3⟩ := m_copies hA ok.1.1 I.B (by omega)
  have key : ∀ k n' m i o σ b', i + k = len → k < n' → k < m → Fr ρ σ (x + 38) 1 → ArrR σ (x + 38) b' → Agr n.1 b' → b' 3 = o → b' 1 = n.1 1 → o ≤ 99999 → ∃ V ρ2 b2, fX3_wrongYear_7 ρ n' (x + 1) (x + 20 + 2 * e) (nI o) (nI i) = some V ∧ fX10_judge_26 m σ (x + 36) (nI e) (nI i) = some (V, ρ2) ∧ Fr ρ ρ2 (x + 38) 1 ∧ ArrR ρ2 (x + 38) b2 := by
    intro k
    induction k with
    | zero =>
      intro n' m i o σ b' hi hn hm fr ha ag h3 h1 ho
      obtain ⟨n', rfl⟩ : ∃ p0, n' = p0 + 1 := ⟨n' - 1, by omega⟩
      obtain ⟨m, rfl⟩ : ∃ p0, m = p0 + 1 := ⟨m - 1, by omega⟩
      have Ib := I.uB (b' := b') (fun j hj hc => fr (x + j) (by omega)) ha
      have S2 : SF σ x (x + 36) sf se sk sm e := SF.mk Ib.S Ib.K he
      rw [fX3_wrongYear_7, fX10_judge_26, Se.1.2.2.1.2.2.2.2, x4, Option.bind_some, if_pos (nI_le (by omega) (by omega)), Ib.sg.2.2.2.2.2.1, Option.bind_some, S2.2.1.2.2.2.2, k4, Option.bind_some, if_pos (nI_le (by omega) (by omega))]
      exact ⟨_, σ, b', rfl, rfl, fr, ha⟩
    | succ k ih =>
      intro n' m i o σ b' hi hn hm fr ha ag h3 h1 ho
      obtain ⟨n', rfl⟩ : ∃ p0, n' = p0 + 1 := ⟨n' - 1, by omega⟩
      obtain ⟨m, rfl⟩ : ∃ p0, m = p0 + 1 := ⟨m - 1, by omega⟩
      have hlt : i < len := by omega
      have Ib := I.uB (b' := b') (fun j hj hc => fr (x + j) (by omega)) ha
      have S2 : SF σ x (x + 36) sf se sk sm e := SF.mk Ib.S Ib.K he
      have T2 := Ib.sg
      have ok2 : OKr b' := ag.ok ok (by rw [h1]; exact hh) (by rw [h3]; exact ho)
      have G2 := ha.f ok2.1.1
      have g3 : ldI σ (x + 38) 3 = some (nI o) := by rw [← h3]; exact G2.1 3 (by omega)
      have O2 : MO σ x mo := (fr (x + 36) (by omega)).trans I.O
      obtain ⟨σ1, s1, s2, s3⟩ := m_year ha ok2
      rw [h3, h1, ag.yr] at s3
      have e1 := ih n' m (i + 1) _ σ1 _ (by omega) (by omega) (by omega) (fr.tr s2) s3 (ag.set (Or.inr rfl)) setE_s (by rw [setE_n (by omega)]; exact h1) (yrO_le _ _)
      have hid : fX10_judge_26 (m + 1) σ (x + 36) (nI e) (nI i) = if se e i = unt so then fX10_judge_26 m σ1 (x + 36) (nI e) (nI (i + 1)) else if se e i = nI o then fX10_judge_26 m σ1 (x + 36) (nI e) (nI (i + 1)) else some (nI i, σ) := by
        rw [fX10_judge_26, T2.2.2.2.2.2.1, Option.bind_some, S2.2.1.2.2.2.2, k4, Option.bind_some, if_neg (nI_ge hlt (by omega))]
        simp only [Option.bind_some, n10, if_false, T2.2.2.2.2.2.2, T2.2.2.2.2.1, fa_lit 100, pk_mul, nI_add, S2.2.2 i (by omega), ← hE i (by omega), S2.2.1.2.2.2.1, k3, m_leastOf σ hso, O2.m, g3, fX10_judge_76, s1, nI_1]
      have hix : fX3_wrongYear_7 ρ (n' + 1) (x + 1) (x + 20 + 2 * e) (nI o) (nI i) = if se e i = unt so then fX3_wrongYear_7 ρ n' (x + 1) (x + 20 + 2 * e) (nI (yrO n.1 o (n.1 1))) (nI (i + 1)) else if se e i = nI o then fX3_wrongYear_7 ρ n' (x + 1) (x + 20 + 2 * e) (nI (yrO n.1 o (n.1 1))) (nI (i + 1)) else some (nI i) := by
        rw [fX3_wrongYear_7, Se.1.2.2.1.2.2.2.2, x4, Option.bind_some, if_neg (nI_ge hlt (by omega))]
        simp only [Option.bind_some, n10, if_false, Se.1.2.2.2.1, Se.1.2.2.2.2 i (by omega), Se.1.2.1, x_untold Se hso x3, fX3_wrongYear_40, F.2.1.2.2.1, F.1.1, x_owedBehindYear F bt ok ho hh, nI_1]
      rw [hid, hix]
      split
      · exact e1
      · split
        · exact e1
        · exact ⟨_, σ, b', rfl, rfl, fr, ha⟩
  obtain ⟨V, ρ2, b2, w1, w2, w3, w4⟩ := key len FU FU 0 (n.1 3) σ n.1 (by omega) (FU_gt (by omega)) (FU_gt (by omega)) y2 y3 Agr.rf rfl rfl d4
  refine ⟨V, ρ2, b2, ?_, ?_, w3, w4⟩
  · unfold fX3_wrongYear
    simp only [Option.bind_some, n10, if_false, x_shelf_in ρ he, T.1, X1, Se.1.1, Se.1.2.1, x_refR Se hc c1, rvR2, le00, if_true, F.2.1.2.2.2.2.1]
    rw [fa_lit 0, w1, Option.bind_some]
  · simp only [Option.bind_some, n10, if_false, M0, m_wrR T Se he hc c2, rvR2, if_true, I.O.s, I.O.m, y1]
    exact w2
