/-! PURE: house, whole. -/
theorem Inv.u4 {σ ρ : Rho} {x : Nat} {h : Nat} {n i d : HT} {sf se : Nat → Nat → Int32} {mo mo' : Nat → Int32} {a b g w a' w' : Nat → Nat} {u t u' : Nat → Int32} {sk : Nat → Nat → Int32} {sm : Nat → Int32} (I : Inv x h n i d sf se mo a b g w u t sk sm ρ) (e : Fh ρ σ x) (S : MS σ x mo' u' a' w' sm) : Inv x h n i d sf se mo' a' b g w' u' t sk sm σ := by
  have q : ∀ j, j < 50 → j ≠ 36 → j ≠ 37 → j ≠ 40 → j ≠ 41 → σ (x + j) = ρ (x + j) := fun j _ h1 h2 h3 h4 => e _ (by omega) (by omega) (by omega) (by omega)
  exact ⟨((q 0 (by omega) (by omega) (by omega) (by omega) (by omega)).trans I.X),
   HouseR.fr (fun j hj => by have q := q (1 + j) (by omega) (by omega) (by omega) (by omega) (by omega); rwa [← Nat.add_assoc] at q) I.N,
   HouseR.fr (fun j hj => by have q := q (7 + j) (by omega) (by omega) (by omega) (by omega) (by omega); rwa [← Nat.add_assoc] at q) I.I,
   HouseR.fr (fun j hj => by have q := q (13 + j) (by omega) (by omega) (by omega) (by omega) (by omega); rwa [← Nat.add_assoc] at q) I.D,
   ShX.fr (fun j h1 h2 => q j (by omega) (by omega) (by omega) (by omega) (by omega)) I.S,
   S.1, S.2.2.1,
   ArrR.fr (q 38 (by omega) (by omega) (by omega) (by omega) (by omega)) I.B,
   ArrR.fr (q 39 (by omega) (by omega) (by omega) (by omega) (by omega)) I.G,
   S.2.2.2.1, S.2.1,
   ((q 42 (by omega) (by omega) (by omega) (by omega) (by omega)).trans I.T),
   ShM.fr (fun j h1 h2 => q j (by omega) (by omega) (by omega) (by omega) (by omega)) I.K,
   (let ⟨f, hf⟩ := I.Q; ⟨f, (q 49 (by omega) (by omega) (by omega) (by omega) (by omega)).trans hf⟩)⟩
theorem m_wrR0 {ρ : Rho} {x q e so : Nat} {sf se sk : Nat → Nat → Int32} {sm : Nat → Int32} (T : SG ρ x q) (S : SF ρ x q sf se sk sm e) (he : e < 8) (h : sk 0 e = nI 2) (hso : so ≤ 2) (h3 : sk 3 e = nI so) : fX10_wrongRow ρ q (nI e) 0 = some (if so = 0 then 0 else -12) := by
  unfold fX10_wrongRow
  rw [m_shelf_in ρ he, Option.bind_some, if_neg n10, T.2.1, Option.bind_some, S.2.1.1, h, Option.bind_some, if_neg (show ¬ nI 2 = 0 by decide), Option.bind_some, S.2.1.1, h, Option.bind_some, if_pos (show nI 2 = 2 from rfl), if_neg (show ¬ (0 : Int32) < 0 by decide), T.2.2.2.2.1, Option.bind_some, S.2.1.2.2.2.1, h3, Option.bind_some]
  rcases (show so = 0 ∨ so = 1 ∨ so = 2 by omega) with rfl | rfl | rfl
  · rfl
  · rfl
  · rfl
theorem m_wrR01 {ρ : Rho} {x q e c : Nat} {sf se sk : Nat → Nat → Int32} {sm : Nat → Int32} (T : SG ρ x q) (S : SF ρ x q sf se sk sm e) (he : e < 8) (hc : c ≤ 1) (h : sk 0 e = nI c) : fX10_wrongRow ρ q (nI e) 0 = some (rvR c) := by
  unfold fX10_wrongRow
  rw [m_shelf_in ρ he, Option.bind_some, if_neg n10, T.2.1, Option.bind_some, S.2.1.1, h, Option.bind_some]
  rcases (show c = 0 ∨ c = 1 by omega) with rfl | rfl
  · rfl
  · rw [if_neg (show ¬ nI 1 = 0 by decide), Option.bind_some, S.2.1.1, h, Option.bind_some, if_neg (show ¬ nI 1 = 2 by decide)]
    rfl
theorem m_77 {σ : Rho} {x p e len : Nat} {mo u : Nat → Int32} {r w : Nat → Nat} {sm : Nat → Int32} (S : MS σ x mo u r w sm) (P : PL mo p e len) (h8 : r 0 ≤ 8) (v3 v4 : Int32) : ∃ σ' mo', fX10_house_77 σ (x + 36) v3 v4 = fX10_house_93 FU σ' (x + 36) v3 v4 ∧ MS σ' x mo' u r r sm ∧ PL mo' 0 e len ∧ Fh σ σ' x ∧ ∀ j, j ≠ 1 → mo' j = mo j := by
  obtain ⟨σ1, q1, f1, A1⟩ := m_copies S.2.2.1 h8 S.2.2.2.1 (by omega)
  have S1 : MS σ1 x mo u r r sm := ⟨(f1 _ (by omega)).trans S.1, (f1 _ (by omega)).trans S.2.1, ArrR.fr (f1 _ (by omega)) S.2.2.1, A1, (f1 _ (by omega)).trans S.2.2.2.2⟩
  obtain ⟨σ2, mo2, q2, S2, P2, f2, m2⟩ := S1.adv' P 0
  refine ⟨σ2, mo2, ?_, S2, P2, (Fh.k40 f1).tr f2, m2⟩
  have q2' : ptV σ1 3 (x + 36) 5 (.int 0) = some σ2 := q2
  rw [fX10_house_77, S.1.s, Option.bind_some, show gR σ 3 (x + 36) 3 = some (x + 40) from gR_at S.1 rfl, Option.bind_some, q1, Option.bind_some, q2', Option.bind_some]
theorem m_93x {σ : Rho} {q : Nat} {v3 v4 : Int32} (h : ¬ v4 = 0) {m : Nat} (hm : 0 < m) : fX10_house_93 m σ q v3 v4 = some (v4, σ) := by
  obtain ⟨m, rfl⟩ : ∃ p0, m = p0 + 1 := ⟨m - 1, by omega⟩
  rw [fX10_house_93, if_neg h, fX10_house_161, if_neg h]
/-- how the reference begins -/
theorem m_house0 {σ : Rho} {x e len : Nat} {mo u : Nat → Int32} {r w : Nat → Nat} {sf se sk : Nat → Nat → Int32} {sm : Nat → Int32} (S : MS σ x mo u r w sm) (T : SG σ x (x + 36)) (G : SF σ x (x + 36) sf se sk sm e) (K : ShM σ x sk sm) (he : e < 8) (h : sk 0 e = nI 2) (h3 : sk 3 e = nI 0) (h4 : sk 4 e = nI len) : ∃ σ' mo', fX10_house σ (x + 36) (nI e) = fX10_house_41 FU σ' (x + 36) (nI 0) 0 ∧ MS σ' x mo' u r w sm ∧ PL mo' 0 e len ∧ Fh σ σ' x ∧ ∀ j, 3 < j ∨ j = 0 → mo' j = mo j := by
  obtain ⟨σ1, q1, f1, O1⟩ := S.1.pt (k := 6) (j := 2) (by omega) (nI (100 * e))
  obtain ⟨σ2, q2, f2, O2⟩ := O1.pt (k := 7) (j := 3) (by omega) (nI len)
  obtain ⟨σ3, q3, f3, O3⟩ := O2.pt (k := 5) (j := 1) (by omega) (nI 0)
  have fr : Fr σ σ3 (x + 36) 1 := (f1.tr f2).tr f3
  have g16 : gR σ1 3 (x + 36) 16 = some (x + 47) := gR_at O1 rfl
  have l47 : ldI σ1 (x + 47) (nI e) = some (nI len) := by
    rw [← h4]
    exact ldI_at ((f1 _ (by omega)).trans K.1.2.2.2.2) he (by omega)
  have q1' : ptV σ 3 (x + 36) 6 (.int ((100 : Int32) * nI e)) = some σ1 := by
    rw [show (100 : Int32) * nI e = nI (100 * e) from pk_mul 100 e]
    exact q1
  have q3' : ptV σ2 3 (x + 36) 5 (.int 0) = some σ3 := q3
  refine ⟨σ3, _, ?_, ⟨O3, (fr _ (by omega)).trans S.2.1, ArrR.fr (fr _ (by omega)) S.2.2.1, ArrR.fr (fr _ (by omega)) S.2.2.2.1, (fr _ (by omega)).trans S.2.2.2.2⟩, ⟨?_, ?_, ?_⟩, Fh.o fr, fun j hj => ?_⟩
  · unfold fX10_house
    rw [S.ck, Option.bind_some, m_wrR0 T G he h (by omega) h3, if_pos rfl, Option.bind_some, if_pos rfl, q1', Option.bind_some, g16, Option.bind_some, l47, Option.bind_some, q2, Option.bind_some, q3', Option.bind_some]
    rfl
  · rw [upd_if, if_pos rfl]
  · rw [upd_if, if_neg (by omega), upd_if, if_neg (by omega), upd_if, if_pos rfl]
  · rw [upd_if, if_neg (by omega), upd_if, if_pos rfl]
  · rw [upd_if, if_neg (by omega), upd_if, if_neg (by omega), upd_if, if_neg (by omega)]
theorem sim_house : Sim_house Rel := by
  intro ρ z0 x q o a1 hR hf
  obtain ⟨z, h, n, i, d, sf, se, mo, a, b, g, w, u, t, sk, sm, ⟨hx, hq, ho⟩, I, gd, sh⟩ := id hR
  subst hq ho
  subst hx
  obtain ⟨⟨g1, g2⟩, ⟨ea, ok, bt⟩, gi⟩ := id gd
  have hA : ArrR ρ (x + 37) n.1 := ea ▸ I.A
  have F := I.N.f ok.1.1
  have G := hA.f ok.1.1
  have X1 : gR ρ 2 x 0 = some (x + 1) := gR_at I.X rfl
  have M0 : ckO ρ 3 (x + 36) = some () := ckO_at I.O
  have M1 : gR ρ 3 (x + 36) 0 = some (x + 37) := gR_at I.O rfl
  have T := I.sg
  have h8 := ok.1.1
  rcases or_assoc.mpr (rng a1 (lo := 0) (hi := 7) (by omega) (by omega)) with c | ⟨e, -, he, rfl⟩
  · refine ww0 hR (fm := fun ρ => fX10_house ρ (x + 36) a1) ⟨-1, ?_, ?_⟩
    · unfold fX9_house
      rw [x_shelf_out ρ c, Option.bind_some, if_pos (of_eq_true z00)]
    · show fX10_house ρ (x + 36) a1 = _
      unfold fX10_house
      rw [M0, Option.bind_some, m_wrR_out ρ (x + 36) 0 c, Option.bind_some, if_neg (show ¬ (-1 : Int32) = 0 by decide)]
  have he : e < 8 := by omega
  have Se : SF ρ x (x + 36) sf se sk sm e := SF.mk I.S I.K he
  obtain ⟨cc, hc, c1, c2⟩ := sh_c sh he
  by_cases hcc : cc ≤ 1
  · refine ww0 hR (fm := fun ρ => fX10_house ρ (x + 36) (nI e)) ⟨rvR cc, ?_, ?_⟩
    · unfold fX9_house
      rw [x_shelf_in ρ he, Option.bind_some, if_neg n10, T.1, Option.bind_some, Se.1.1, Option.bind_some, Se.1.2.1, Option.bind_some, x_refR Se hc c1, Option.bind_some]
      rcases (show cc = 0 ∨ cc = 1 by omega) with rfl | rfl
      · exact if_neg (show ¬ (0 : Int32) ≤ -11 by decide)
      · exact if_neg (show ¬ (0 : Int32) ≤ -12 by decide)
    · show fX10_house ρ (x + 36) (nI e) = _
      unfold fX10_house
      rw [M0, Option.bind_some, m_wrR01 T Se he hcc c2, Option.bind_some]
      rcases (show cc = 0 ∨ cc = 1 by omega) with rfl | rfl
      · exact if_neg (show ¬ (-11 : Int32) = 0 by decide)
      · exact if_neg (show ¬ (-12 : Int32) = 0 by decide)
  obtain rfl : cc = 2 := by omega
  obtain ⟨so, len, ⟨hso, hlen⟩, x3, x4, k3, k4, hE, hB⟩ := sh_r sh he c1
  have beg : fX9_house ρ x (nI e) = if nI so = 0 then ((fX7_faultyByte ρ (x + 20 + 2 * e)).bind fun x10 =>
    if x10 < 0 then ((gR ρ 2 x 2).bind fun x12 =>
    (gR ρ 2 x 0).bind fun x13 =>
    (ckO ρ 0 x12).bind fun x14 =>
    (fX0_become ρ x12 x13).bind fun x15 =>
    (gR x15 2 x 2).bind fun x16 =>
    (fX7_carryOut x15 (x + 20 + 2 * e) x16).bind fun x17 =>
    if x17.1 < 0 then (some (x17.1, x17.2))
    else ((gR x17.2 2 x 0).bind fun x19 =>
    (gR x17.2 2 x 2).bind fun x20 =>
    (ckO x17.2 0 x19).bind fun x21 =>
    (fX0_become x17.2 x19 x20).bind fun x22 =>
    some (x17.1, x22)))
    else (some (((-1000) - x10), ρ)))
    else (some ((-12), ρ)) := by
    unfold fX9_house
    rw [x_shelf_in ρ he, Option.bind_some, if_neg n10, T.1, Option.bind_some, Se.1.1, Option.bind_some, Se.1.2.1, Option.bind_some, x_refR Se hc c1, Option.bind_some, if_pos (show (0 : Int32) ≤ rvR 2 by decide), Se.1.2.2.1.2.2.2.1, x3, Option.bind_some]
  by_cases hs0 : so = 0
  · subst hs0
    rw [if_pos (of_eq_true z00)] at beg
    have KBc : KB (fun j => cby (se e j)) len (sf e) (se e) := ⟨x4, hlen, fun j hj => (byte_of (hB rfl j (by omega)).1 (hB rfl j (by omega)).2).1⟩
    have KMc : KM (fun j => cby (se e j)) len e sm := ⟨he, hlen, fun j hj => by
      obtain ⟨q1, q2⟩ := byte_of (hB rfl j (by omega)).1 (hB rfl j (by omega)).2
      exact ⟨q1.1, by rw [← hE j (by omega)]; exact q2⟩⟩
    have CT0 : CT ρ (x + 20 + 2 * e) (x + 20 + 2 * e + 1) (sf e) (se e) := by
      obtain ⟨t1, t2⟩ := I.S.2 e he
      rw [show x + 21 + 2 * e = x + 20 + 2 * e + 1 by omega] at t1 t2
      exact ⟨t1, t2⟩
    have fin : ∀ (V : Int32) (ρ1 : Rho) (n1 d1 : HT), fX9_house ρ x (nI e) = some (V, ρ1) → Inv x h n1 i d1 sf se mo n.1 b g w u t sk sm ρ1 → OKr n1.1 → BitsR n1.1 n1.2 → (∀ σ mo', MS σ x mo' u n.1 w sm → PL mo' 0 e len → ∃ σ' mo'' u' w' p', fX10_house_41 FU σ (x + 36) (nI 0) 0 = some (V, σ') ∧ MS σ' x mo'' u' n1.1 w' sm ∧ Fh σ σ' x ∧ mo'' 0 = mo' 0 ∧ p' = 0) → ∃ (ux : Unit) (r : Int32) (ρ1 : Rho) (um : Unit) (ρ2 : Rho), ckO ρ 2 x = some ux ∧ fX9_house ρ x (nI e) = some (r, ρ1) ∧ ckO ρ1 3 (x + 36) = some um ∧ fX10_house ρ1 (x + 36) (nI e) = some (r, ρ2) ∧ Rel ρ2 x (x + 36) (x + 49) := by
      intro V ρ1 n1 d1 hx I1 ok1 bt1 M
      have S1 : MS ρ1 x mo u n.1 w sm := ⟨I1.O, I1.U, I1.A, I1.W, I1.K.2⟩
      obtain ⟨σ1, mo1, q1, S2, P2, f2, m2⟩ := m_house0 S1 I1.sg (SF.mk I1.S I1.K he) I1.K he c2 k3 k4
      obtain ⟨σ2, mo2, u2, w2, -, q2, S3, f3, m3, -⟩ := M σ1 mo1 S2 P2
      exact ⟨(), V, ρ1, (), σ2, ckO_at I.X, hx, ckO_at I1.O, q1.trans q2, x, h, n1, i, d1, sf, se, mo2, n1.1, b, g, w2, u2, t, sk, sm, ⟨rfl, rfl, rfl⟩, I1.u4 (f2.tr f3) S3, ⟨⟨g1, (m3.trans (m2 0 (by omega))).trans g2⟩, ⟨rfl, ok1, bt1⟩, gi⟩, sh⟩
    have I0 : Inv x h n i d sf se mo n.1 b g w u t sk sm ρ := ea ▸ I
    have hmm : 1000 < FU := FU_gt (by omega)
    rcases ph1 (x := x) (e := e) CT0 KBc 101 FU 0 (by omega) (by omega) (by omega) with ⟨f, hfl, y1, M⟩ | ⟨N, hN, hV, y1, M⟩
    · refine fin (-1000 - nI f) ρ n d ?_ I0 ok bt (fun σ mo' S P => ?_)
      · rw [beg]
        unfold fX7_faultyByte
        rw [show fX7_faultyByte_2 ρ FU (x + 20 + 2 * e) 0 = _ from y1, Option.bind_some, if_neg (nI_pos (by omega))]
      · obtain ⟨σ1, mo1, u1, p1, V, q1, R1⟩ := M σ mo' u n.1 w sm FU 0 (by omega) KMc S P
        obtain ⟨σ2, mo2, q2, S2, P2, f2, m2⟩ := m_77 R1.1 R1.2.1 h8 V (-1000 - nI f)
        exact ⟨σ2, mo2, u1, n.1, 0, by rw [q1, q2, m_93x (neg1 f (by omega)) (by omega)], S2, R1.2.2.1.tr f2, (m2 0 (by omega)).trans (R1.2.2.2 0 (by omega)), rfl⟩
    · obtain ⟨ρ1, e1, f1, H1⟩ := x_become (p := x + 1) (b := x + 13) I.N I.D (by omega) h8
      have I1 : Inv x h n i n sf se mo n.1 b g w u t sk sm ρ1 := I0.uD (fun j hj hc => f1 _ (by omega)) H1
      have CT1 : CT ρ1 (x + 20 + 2 * e) (x + 20 + 2 * e + 1) (sf e) (se e) := ⟨(f1 _ (by omega)).trans CT0.1, (f1 _ (by omega)).trans CT0.2⟩
      have beg2 : fX9_house ρ x (nI e) = ((fX7_carryOut_4 FU ρ1 (x + 20 + 2 * e) (x + 13) (nI 0) (nI 0)).bind fun x17 =>
    if x17.1 < 0 then (some (x17.1, x17.2))
    else ((gR x17.2 2 x 0).bind fun x19 =>
    (gR x17.2 2 x 2).bind fun x20 =>
    (ckO x17.2 0 x19).bind fun x21 =>
    (fX0_become x17.2 x19 x20).bind fun x22 =>
    some (x17.1, x22))) := by
        rw [beg]
        unfold fX7_faultyByte
        rw [show fX7_faultyByte_2 ρ FU (x + 20 + 2 * e) 0 = _ from y1, Option.bind_some, if_pos (show (-1 : Int32) < 0 by decide), I.X.n2, Option.bind_some, X1, Option.bind_some, I.D.f0.1, Option.bind_some, e1, Option.bind_some, I1.X.n2, Option.bind_some]
        rfl
      rcases ph2 (x := x) (e := e) KBc (by omega) rfl N FU 0 0 ρ1 n.1 n.2 (by omega) (by omega) hV H1 ok bt CT1 with ⟨κ', r', B', y2, H2, ok2, bt2, f2, M2⟩ | ⟨κ', r', B', p', hp', y2, H2, f2, M2⟩
      · have I2 : Inv x h n i (r', B') sf se mo n.1 b g w u t sk sm κ' := I1.uD (fun j hj hc => f2 _ (by omega)) H2
        obtain ⟨ρ3, e3, f3, H3⟩ := x_become (p := x + 13) (b := x + 1) H2 I2.N (by omega) ok2.1.1
        have I3 : Inv x h (r', B') i (r', B') sf se mo n.1 b g w u t sk sm ρ3 := I2.uN (fun j hj hc => f3 _ (by omega)) H3
        refine fin (nI N) ρ3 (r', B') (r', B') ?_ I3 ok2 bt2 (fun σ mo' S P => ?_)
        · rw [beg2, y2, Option.bind_some, Nat.zero_add]
          dsimp only
          rw [if_neg (nI_pos (by omega)), I2.X.n0, Option.bind_some, I2.X.n2, Option.bind_some, I2.N.f0.1, Option.bind_some, e3, Option.bind_some]
        · obtain ⟨σ1, mo1, u1, p1, q1, R1⟩ := M σ mo' u n.1 w sm FU 0 (by omega) KMc S P
          obtain ⟨σ2, mo2, q2, S2, P2, f2, m2⟩ := m_77 R1.1 R1.2.1 h8 (nI (0 + N)) 0
          obtain ⟨σ3, mo3, u3, q3, S3, f3, m3⟩ := M2 σ2 mo2 u1 n.1 sm FU (nI (0 + N)) (by omega) KMc S2 P2
          exact ⟨σ3, mo3, u3, n.1, 0, by rw [q1, q2, q3, Nat.zero_add], S3, (R1.2.2.1.tr f2).tr f3, ((m3 0 (by omega)).trans (m2 0 (by omega))).trans (R1.2.2.2 0 (by omega)), rfl⟩
      · have I2 : Inv x h n i (r', B') sf se mo n.1 b g w u t sk sm κ' := I1.uD (fun j hj hc => f2 _ (by omega)) H2
        refine fin (-2000 - nI p') κ' n (r', B') ?_ I2 ok bt (fun σ mo' S P => ?_)
        · rw [beg2, y2, Option.bind_some]
          exact if_pos (neg2 p' (by omega)).2
        · obtain ⟨σ1, mo1, u1, p1, q1, R1⟩ := M σ mo' u n.1 w sm FU 0 (by omega) KMc S P
          obtain ⟨σ2, mo2, q2, S2, P2, f2, m2⟩ := m_77 R1.1 R1.2.1 h8 (nI (0 + N)) 0
          obtain ⟨σ3, mo3, u3, q3, S3, f3, m3⟩ := M2 σ2 mo2 u1 n.1 sm FU (nI (0 + N)) (by omega) h8 KMc S2 P2
          exact ⟨σ3, mo3, u3, n.1, 0, by rw [q1, q2, q3], S3, (R1.2.2.1.tr f2).tr f3, ((m3 0 (by omega)).trans (m2 0 (by omega))).trans (R1.2.2.2 0 (by omega)), rfl⟩
  · refine ww0 hR (fm := fun ρ => fX10_house ρ (x + 36) (nI e)) ⟨-12, ?_, ?_⟩
    · rw [beg, if_neg (show ¬ nI so = 0 from fun h => hs0 ((nI_eq (b := 0) (by omega) (by omega)).mp h))]
    · show fX10_house ρ (x + 36) (nI e) = _
      unfold fX10_house
      rw [M0, Option.bind_some, m_wrR0 T Se he c2 hso k3, if_neg hs0, Option.bind_some, if_neg (show ¬ (-12 : Int32) = 0 by decide)]
