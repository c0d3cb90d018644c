/-! PURE: house: the whole text, on both sides. -/
def cby (v : Int32) : Nat := (v.toInt % 256).toNat
theorem byte_all : ∀ n : Nat, n < 256 → (cby (Int32.ofInt ((n : Int) - 128)) < 256 ∧ ((cby (Int32.ofInt ((n : Int) - 128)) < 128 ∧ Int32.ofInt ((n : Int) - 128) = nI (cby (Int32.ofInt ((n : Int) - 128)))) ∨ (128 ≤ cby (Int32.ofInt ((n : Int) - 128)) ∧ Int32.ofInt ((n : Int) - 128) < 0))) ∧ Int32.ofInt ((n : Int) - 128) &&& 255 = nI (cby (Int32.ofInt ((n : Int) - 128))) := by decide +kernel
theorem byte_of {v : Int32} (h1 : -128 ≤ v.toInt) (h2 : v.toInt ≤ 127) : (cby v < 256 ∧ ((cby v < 128 ∧ v = nI (cby v)) ∨ (128 ≤ cby v ∧ v < 0))) ∧ v &&& 255 = nI (cby v) := by
  have e := byte_all (v.toInt + 128).toNat (by omega)
  rw [show (((v.toInt + 128).toNat : Nat) : Int) - 128 = v.toInt by omega, Int32.ofInt_toInt] at e
  exact e
theorem neg1 : ∀ f, f < 101 → ¬ ((-1000 : Int32) - nI f) = 0 := by decide +kernel
theorem neg2 : ∀ f, f < 101 → ¬ ((-2000 : Int32) - nI f) = 0 ∧ ((-2000 : Int32) - nI f) < 0 := by decide +kernel
def VS (c : Nat → Nat) (len : Nat) : Nat → Nat → Prop
  | 0, p => p = len
  | N + 1, p => flt c len p = none ∧ VS c len N (p + dgs (c p) + 2)
section HS
variable {x a b e len : Nat} {F E : Nat → Int32} {c : Nat → Nat}
theorem ph1 {κ : Rho} (T : CT κ a b F E) (K : KB c len F E) : ∀ k n p, len - p ≤ k → k < n → p ≤ len → (∃ f, f ≤ len ∧ fX7_faultyByte_2 κ n a (nI p) = some (nI f) ∧ ∀ σ mo u r w sm m t, k < m → KM c len e sm → MS σ x mo u r w sm → PL mo p e len → ∃ σ' mo' u' p' V, fX10_house_41 m σ (x + 36) (nI t) 0 = fX10_house_77 σ' (x + 36) V (-1000 - nI f) ∧ MR σ σ' x mo mo' u' r w sm p' e len) ∨ (∃ N, p + N ≤ len ∧ VS c len N p ∧ fX7_faultyByte_2 κ n a (nI p) = some (-1) ∧ ∀ σ mo u r w sm m t, k < m → KM c len e sm → MS σ x mo u r w sm → PL mo p e len → ∃ σ' mo' u' p', fX10_house_41 m σ (x + 36) (nI t) 0 = fX10_house_77 σ' (x + 36) (nI (t + N)) 0 ∧ MR σ σ' x mo mo' u' r w sm p' e len) := by
  have hl := K.2.1
  intro k
  induction k with
  | zero =>
    intro n p hk hn hp
    obtain ⟨n, rfl⟩ : ∃ p0, n = p0 + 1 := ⟨n - 1, by omega⟩
    have e0 : flt c len p = some p := flt_no (fun h => by omega)
    refine Or.inl ⟨p, hp, ?_, fun σ mo u r w sm m t hm KM1 S P => ?_⟩
    · rw [fX7_faultyByte_2, x_fbs T K hp, e0, Option.bind_some]
      exact if_neg (show ¬ nI p = -1 from fun h => nI_pos (show p < 2 ^ 31 by omega) (h ▸ (by decide : (-1 : Int32) < 0)))
    · obtain ⟨m, rfl⟩ : ∃ p0, m = p0 + 1 := ⟨m - 1, by omega⟩
      obtain ⟨σ1, mo1, u1, q1, R1, -⟩ := m_rs S KM1 P hp
      rw [e0] at q1 R1
      refine ⟨σ1, mo1, u1, p, nI t + 1, ?_, R1⟩
      rw [fX10_house_41, S.ck, Option.bind_some, q1, Option.bind_some]
      show (if nI 0 = 0 then _ else _) = _
      rw [if_pos (of_eq_true z00), R1.1.h5, R1.2.1.1, Option.bind_some, fX10_house_58]
      exact if_neg (neg1 p (by omega))
  | succ k ih =>
    intro n p hk hn hp
    obtain ⟨n, rfl⟩ : ∃ p0, n = p0 + 1 := ⟨n - 1, by omega⟩
    cases hf : flt c len p with
    | some f =>
      have hfl := flt_le hp hf
      refine Or.inl ⟨f, hfl, ?_, fun σ mo u r w sm m t hm KM1 S P => ?_⟩
      · rw [fX7_faultyByte_2, x_fbs T K hp, hf, Option.bind_some]
        exact if_neg (show ¬ nI f = -1 from fun h => nI_pos (show f < 2 ^ 31 by omega) (h ▸ (by decide : (-1 : Int32) < 0)))
      · obtain ⟨m, rfl⟩ : ∃ p0, m = p0 + 1 := ⟨m - 1, by omega⟩
        obtain ⟨σ1, mo1, u1, q1, R1, -⟩ := m_rs S KM1 P hp
        rw [hf] at q1 R1
        refine ⟨σ1, mo1, u1, f, nI t + 1, ?_, R1⟩
        rw [fX10_house_41, S.ck, Option.bind_some, q1, Option.bind_some]
        show (if nI 0 = 0 then _ else _) = _
        rw [if_pos (of_eq_true z00), R1.1.h5, R1.2.1.1, Option.bind_some, fX10_house_58]
        exact if_neg (neg1 f (by omega))
    | none =>
      obtain ⟨hpl, hd0, hs, hend⟩ := flt_none hf
      have h5 := dgs_le (c p)
      have cls : fX7_faultyByte_2 κ (n + 1) a (nI p) = if p + dgs (c p) + 2 < len then fX7_faultyByte_2 κ n a (nI (p + dgs (c p) + 2)) else some (-1) := by
        rw [fX7_faultyByte_2, x_fbs T K hp, hf, Option.bind_some]
        show (if (-1 : Int32) = -1 then _ else _) = _
        rw [if_pos rfl, show gR κ 1 a 5 = some b from gR_at T.1 rfl, Option.bind_some, T.ld K hpl, Option.bind_some, K.beh hpl, Option.bind_some, T.g4 K, Option.bind_some, show nI (dgs (c p)) + 2 = nI (dgs (c p) + 2) from nI_add _ 2, nI_add, show p + (dgs (c p) + 2) = p + dgs (c p) + 2 by omega]
        by_cases q : p + dgs (c p) + 2 < len
        · rw [if_pos q, if_pos (nI_lt q (by omega))]
        · rw [if_neg q, if_neg (show ¬ nI (p + dgs (c p) + 2) < nI len from fun h => q ((nI_ltI (by omega) (by omega)).mp h))]
      have mdl : ∀ (σ : Rho) (mo u : Nat → Int32) (r w : Nat → Nat) (sm : Nat → Int32) (m t : Nat), KM c len e sm → MS σ x mo u r w sm → PL mo p e len → ∃ σ' mo' u', fX10_house_41 (m + 1) σ (x + 36) (nI t) 0 = (if p + dgs (c p) + 2 < len then fX10_house_41 m σ' (x + 36) (nI (t + 1)) 0 else fX10_house_77 σ' (x + 36) (nI (t + 1)) 0) ∧ MR σ σ' x mo mo' u' r w sm (p + dgs (c p) + 2) e len := by
        intro σ mo u r w sm m t KM1 S P
        obtain ⟨σ1, mo1, u1, q1, R1, -⟩ := m_rs S KM1 P hp
        rw [hf] at q1 R1
        refine ⟨σ1, mo1, u1, ?_, R1⟩
        have R1' : PL mo1 (p + dgs (c p) + 2) e len := R1.2.1
        rw [fX10_house_41, S.ck, Option.bind_some, q1, Option.bind_some]
        show (if nI 1 = 0 then _ else _) = _
        rw [if_neg n10, fX10_house_58, if_pos rfl, R1.1.h5, R1.1.h7, R1'.1, R1'.2.2, Option.bind_some, Option.bind_some, nI_1]
        by_cases q : p + dgs (c p) + 2 < len
        · rw [if_pos q, if_pos (nI_lt q (by omega))]
        · rw [if_neg q, if_neg (show ¬ nI (p + dgs (c p) + 2) < nI len from fun h => q ((nI_ltI (by omega) (by omega)).mp h))]
      by_cases q : p + dgs (c p) + 2 < len
      · rw [cls, if_pos q]
        rcases ih n (p + dgs (c p) + 2) (by omega) (by omega) (by omega) with ⟨f, hfl, c1, M⟩ | ⟨N, hN, hV, c1, M⟩
        · refine Or.inl ⟨f, hfl, c1, fun σ mo u r w sm m t hm KM1 S P => ?_⟩
          obtain ⟨m, rfl⟩ : ∃ p0, m = p0 + 1 := ⟨m - 1, by omega⟩
          obtain ⟨σ1, mo1, u1, q1, R1⟩ := mdl σ mo u r w sm m t KM1 S P
          obtain ⟨σ2, mo2, u2, p2, V, q2, R2⟩ := M σ1 mo1 u1 r w sm m (t + 1) (by omega) KM1 R1.1 R1.2.1
          exact ⟨σ2, mo2, u2, p2, V, by rw [q1, if_pos q, q2], R1.tr R2⟩
        · refine Or.inr ⟨N + 1, by omega, ⟨hf, hV⟩, c1, fun σ mo u r w sm m t hm KM1 S P => ?_⟩
          obtain ⟨m, rfl⟩ : ∃ p0, m = p0 + 1 := ⟨m - 1, by omega⟩
          obtain ⟨σ1, mo1, u1, q1, R1⟩ := mdl σ mo u r w sm m t KM1 S P
          obtain ⟨σ2, mo2, u2, p2, q2, R2⟩ := M σ1 mo1 u1 r w sm m (t + 1) (by omega) KM1 R1.1 R1.2.1
          exact ⟨σ2, mo2, u2, p2, by rw [q1, if_pos q, q2, show t + 1 + N = t + (N + 1) by omega], R1.tr R2⟩
      · rw [cls, if_neg q]
        refine Or.inr ⟨1, by omega, ⟨hf, show p + dgs (c p) + 2 = len by omega⟩, rfl, fun σ mo u r w sm m t hm KM1 S P => ?_⟩
        obtain ⟨m, rfl⟩ : ∃ p0, m = p0 + 1 := ⟨m - 1, by omega⟩
        obtain ⟨σ1, mo1, u1, q1, R1⟩ := mdl σ mo u r w sm m t KM1 S P
        exact ⟨σ1, mo1, u1, _, by rw [q1, if_neg q], R1⟩
theorem ph2 (K : KB c len F E) (ha : a + 2 ≤ x + 13 ∨ x + 19 ≤ a) (hb : b = a + 1) : ∀ N n p t κ r B, p + N ≤ len → N < n → VS c len N p → HouseR κ (x + 13) r B → OKr r → BitsR r B → CT κ a b F E → (∃ κ' r' B', fX7_carryOut_4 n κ a (x + 13) (nI t) (nI p) = some (nI (t + N), κ') ∧ HouseR κ' (x + 13) r' B' ∧ OKr r' ∧ BitsR r' B' ∧ Fr κ κ' (x + 13) 6 ∧ ∀ σ mo u w sm m V, N < m → KM c len e sm → MS σ x mo u r w sm → PL mo p e len → ∃ σ' mo' u', fX10_house_93 m σ (x + 36) V 0 = some (V, σ') ∧ MS σ' x mo' u' r' w sm ∧ Fh σ σ' x ∧ ∀ j, j ≠ 1 → mo' j = mo j) ∨ (∃ κ' r' B' p', p' ≤ 100 ∧ fX7_carryOut_4 n κ a (x + 13) (nI t) (nI p) = some (-2000 - nI p', κ') ∧ HouseR κ' (x + 13) r' B' ∧ Fr κ κ' (x + 13) 6 ∧ ∀ σ mo u w sm m V, N < m → w 0 ≤ 8 → KM c len e sm → MS σ x mo u r w sm → PL mo p e len → ∃ σ' mo' u', fX10_house_93 m σ (x + 36) V 0 = some (-2000 - nI p', σ') ∧ MS σ' x mo' u' w w sm ∧ Fh σ σ' x ∧ ∀ j, j ≠ 1 → mo' j = mo j) := by
  have hl := K.2.1
  intro N
  induction N with
  | zero =>
    intro n p t κ r B hp hn hV H ok bt T
    obtain ⟨n, rfl⟩ : ∃ p0, n = p0 + 1 := ⟨n - 1, by omega⟩
    obtain rfl : p = len := hV
    refine Or.inl ⟨κ, r, B, ?_, H, ok, bt, Fr.rf, fun σ mo u w sm m V hm KM1 S P => ?_⟩
    · rw [fX7_carryOut_4, T.g4 K, Option.bind_some, if_pos (nI_le (Nat.le_refl _) (by omega))]
      rfl
    · obtain ⟨m, rfl⟩ : ∃ p0, m = p0 + 1 := ⟨m - 1, by omega⟩
      refine ⟨σ, mo, u, ?_, S, Fh.rf, fun _ _ => rfl⟩
      rw [fX10_house_93, if_pos rfl, S.h5, S.h7, P.1, P.2.2, Option.bind_some, Option.bind_some, if_pos (nI_le (Nat.le_refl _) (by omega)), fX10_house_161, if_pos rfl]
  | succ N ih =>
    intro n p t κ r B hp hn hV H ok bt T
    obtain ⟨n, rfl⟩ : ∃ p0, n = p0 + 1 := ⟨n - 1, by omega⟩
    obtain ⟨hf, hV2⟩ := hV
    obtain ⟨hpl, hd0, hs, hend⟩ := flt_none hf
    have h5 := dgs_le (c p)
    obtain ⟨v, κ1, r1, B1, a1, H1, f1, out⟩ := op_step H ok bt T K hf
    have T1 : CT κ1 a b F E := ⟨(f1 _ (by omega)).trans T.1, (f1 _ (by omega)).trans T.2⟩
    have cls : fX7_carryOut_4 (n + 1) κ a (x + 13) (nI t) (nI p) = if (0 : Int32) ≤ v then fX7_carryOut_4 n κ1 a (x + 13) (nI (t + 1)) (nI (p + dgs (c p) + 2)) else some (-2000 - nI p, κ1) := by
      rw [fX7_carryOut_4, T.g4 K, Option.bind_some, if_neg (nI_ge hpl (by omega)), a1, Option.bind_some]
      dsimp only
      rw [show gR κ1 1 a 5 = some b from gR_at T1.1 rfl, Option.bind_some, T1.ld K hpl, Option.bind_some, K.beh hpl, Option.bind_some, nI_1, show nI (dgs (c p)) + 2 = nI (dgs (c p) + 2) from nI_add _ 2, nI_add, show p + (dgs (c p) + 2) = p + dgs (c p) + 2 by omega]
    have mdl : ∀ (σ : Rho) (mo u : Nat → Int32) (w : Nat → Nat) (sm : Nat → Int32) (m : Nat) (V : Int32), KM c len e sm → MS σ x mo u r w sm → PL mo p e len → ∃ σ' mo' u', fX10_house_93 (m + 1) σ (x + 36) V 0 = ((fX10_isDone σ' (x + 36) (nI (c p))).bind fun x12 => if x12.1 = 0 then ((gR x12.2 3 (x + 36) 3).bind fun x14 => (gR x12.2 3 (x + 36) 0).bind fun x15 => (fX10_copies x12.2 x14 x15).bind fun x16 => fX10_house_93 m x16 (x + 36) V ((-2000) - nI p)) else fX10_house_93 m x12.2 (x + 36) V 0) ∧ MR σ σ' x mo mo' u' r w sm (p + dgs (c p) + 2) e len ∧ UN c p u' := by
      intro σ mo u w sm m V KM1 S P
      obtain ⟨σ1, mo1, u1, q1, R1, U1⟩ := m_rs S KM1 P (show p ≤ len by omega)
      rw [hf] at q1 R1
      refine ⟨σ1, mo1, u1, ?_, R1, U1 hf⟩
      rw [fX10_house_93, if_pos rfl, S.h5, S.h7, P.1, P.2.2, Option.bind_some, Option.bind_some, if_neg (nI_ge hpl (by omega)), Option.bind_some, S.ck, Option.bind_some, S.here KM1 P hpl, Option.bind_some, Option.bind_some, q1, Option.bind_some]
      dsimp only
      rw [R1.1.ck, Option.bind_some]
    rcases out with ⟨hv, ok1, bt1, Y⟩ | ⟨hv, Y⟩
    · rw [cls, if_pos hv]
      have go : ∀ (σ : Rho) (mo u : Nat → Int32) (w : Nat → Nat) (sm : Nat → Int32) (m : Nat) (V : Int32), KM c len e sm → MS σ x mo u r w sm → PL mo p e len → ∃ σ' mo' u', fX10_house_93 (m + 1) σ (x + 36) V 0 = fX10_house_93 m σ' (x + 36) V 0 ∧ MR σ σ' x mo mo' u' r1 w sm (p + dgs (c p) + 2) e len := by
        intro σ mo u w sm m V KM1 S P
        obtain ⟨σ1, mo1, u1, q1, R1, U1⟩ := mdl σ mo u w sm m V KM1 S P
        obtain ⟨σ2, q2, S2, f2⟩ := Y σ1 mo1 u1 w sm R1.1 U1
        refine ⟨σ2, mo1, u1, ?_, S2, R1.2.1, R1.2.2.1.tr f2, R1.2.2.2⟩
        rw [q1, q2, Option.bind_some]
        exact if_neg n10
      rcases ih n (p + dgs (c p) + 2) (t + 1) κ1 r1 B1 (by
        have : ∀ N p, VS c len N p → p + N ≤ len := by
          intro N
          induction N with
          | zero => exact fun p h => Nat.le_of_eq h
          | succ N jh =>
            intro p h
            have := jh _ h.2
            omega
        exact this _ _ hV2) (by omega) hV2 H1 ok1 bt1 T1 with ⟨κ', r', B', g1, g2, g3, g4, g5, M⟩ | ⟨κ', r', B', p', gp, g1, g2, g5, M⟩
      · refine Or.inl ⟨κ', r', B', by rw [g1, show t + 1 + N = t + (N + 1) by omega], g2, g3, g4, f1.tr g5, fun σ mo u w sm m V hm KM1 S P => ?_⟩
        obtain ⟨m, rfl⟩ : ∃ p0, m = p0 + 1 := ⟨m - 1, by omega⟩
        obtain ⟨σ2, mo2, u2, q2, R2⟩ := go σ mo u w sm m V KM1 S P
        obtain ⟨σ3, mo3, u3, q3, S3, f3, m3⟩ := M σ2 mo2 u2 w sm m V (by omega) KM1 R2.1 R2.2.1
        exact ⟨σ3, mo3, u3, q2.trans q3, S3, R2.2.2.1.tr f3, fun j hj => (m3 j hj).trans (R2.2.2.2 j hj)⟩
      · refine Or.inr ⟨κ', r', B', p', gp, g1, g2, f1.tr g5, fun σ mo u w sm m V hm hw8 KM1 S P => ?_⟩
        obtain ⟨m, rfl⟩ : ∃ p0, m = p0 + 1 := ⟨m - 1, by omega⟩
        obtain ⟨σ2, mo2, u2, q2, R2⟩ := go σ mo u w sm m V KM1 S P
        obtain ⟨σ3, mo3, u3, q3, S3, f3, m3⟩ := M σ2 mo2 u2 w sm m V (by omega) hw8 KM1 R2.1 R2.2.1
        exact ⟨σ3, mo3, u3, q2.trans q3, S3, R2.2.2.1.tr f3, fun j hj => (m3 j hj).trans (R2.2.2.2 j hj)⟩
    · rw [cls, if_neg hv]
      refine Or.inr ⟨κ1, r1, B1, p, by omega, rfl, H1, f1, fun σ mo u w sm m V hm hw8 KM1 S P => ?_⟩
      obtain ⟨m, rfl⟩ : ∃ p0, m = p0 + 1 := ⟨m - 1, by omega⟩
      obtain ⟨m, rfl⟩ : ∃ p0, m = p0 + 1 := ⟨m - 1, by omega⟩
      obtain ⟨σ1, mo1, u1, q1, R1, U1⟩ := mdl σ mo u w sm (m + 1) V KM1 S P
      obtain ⟨σ2, r2, q2, S2, f2⟩ := Y σ1 mo1 u1 w sm R1.1 U1
      obtain ⟨σ3, q3, f3, A3⟩ := m_copies S2.2.2.2.1 hw8 S2.2.2.1 (by omega)
      refine ⟨σ3, mo1, u1, ?_, ⟨(f3 _ (by omega)).trans S2.1, (f3 _ (by omega)).trans S2.2.1, A3, ArrR.fr (f3 _ (by omega)) S2.2.2.2.1, (f3 _ (by omega)).trans S2.2.2.2.2⟩, (R1.2.2.1.tr f2).tr (Fh.s f3), R1.2.2.2⟩
      rw [q1, q2, Option.bind_some]
      dsimp only
      rw [if_pos (of_eq_true z00), show gR σ2 3 (x + 36) 3 = some (x + 40) from gR_at S2.1 rfl, Option.bind_some, S2.1.s, Option.bind_some, q3, Option.bind_some, fX10_house_93, if_neg (neg2 p (by omega)).1, fX10_house_161, if_neg (neg2 p (by omega)).1]
end HS
