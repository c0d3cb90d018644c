/-! PURE: house: how the reference reads a statement. -/
theorem orE_assoc (a b d : Option Nat) : orE (orE a b) d = orE a (orE b d) := by
  cases a <;> rfl
theorem flt_st {c : Nat → Nat} {len p d : Nat} (hp : p < len) (hd : dgs (c p) = d) (h0 : d ≠ 0) : flt c len p = orE (scn c len d (p + 1)) (smc c len (p + 1 + d)) := by
  unfold flt
  rw [if_pos hp, hd, if_neg h0]
theorem flt_no {c : Nat → Nat} {len p : Nat} (h : p < len → dgs (c p) = 0) : flt c len p = some p := by
  unfold flt
  by_cases q : p < len
  · rw [if_pos q, if_pos (h q)]
  · rw [if_neg q]
theorem orE_n1 {a b : Option Nat} (h : orE a b = none) : a = none ∧ b = none := by
  cases a with
  | none => exact ⟨rfl, h⟩
  | some f => cases h
section TN
variable {σ : Rho} {x e len : Nat} {c : Nat → Nat} {mo u : Nat → Int32} {r w : Nat → Nat} {sm : Nat → Int32}
theorem m_chain (S : MS σ x mo u r w sm) (K : KM c len e sm) {p i n Z : Nat} {o : Option Nat} {Q : (Nat → Int32) → Prop} {G : Rho → Option (Int32 × Rho)} (P : PL mo p e len) (hp : p ≤ len) (hi : i < 4) (hn : n ≤ 5) (HG : ∀ σ1 mo1 u1, MS σ1 x mo1 u1 r w sm → PL mo1 (p + n) e len → p + n ≤ len → (∀ j, j ≠ i → u1 j = u j) → u1 i = nI (nm c p n) → ∃ σ' mo' u', G σ1 = some (nI (sv o), σ') ∧ MR σ1 σ' x mo1 mo' u' r w sm (sp o Z) e len ∧ (o = none → Q u')) : ∃ σ' mo' u', ((fX10_readsNumber σ (x + 36) (nI i) (nI n)).bind fun y => if y.1 = 0 then fX10_readsStatement_218 y.2 (x + 36) 0 else G y.2) = some (nI (sv (orE (scn c len n p) o)), σ') ∧ MR σ σ' x mo mo' u' r w sm (sp (orE (scn c len n p) o) Z) e len ∧ (orE (scn c len n p) o = none → Q u') := by
  obtain ⟨σ1, mo1, u1, e1, R1, h1, h2⟩ := m_rn S K P hp hi hn
  have l := scn_le (c := c) (len := len) n p hp
  rw [e1, Option.bind_some]
  cases q : scn c len n p with
  | some f =>
    rw [q] at R1 h2
    obtain ⟨σ2, mo2, e2, R2⟩ := m_semi0 R1.1 R1.2.1
    refine ⟨σ2, mo2, u1, ?_, R1.tr R2, fun h => by cases h⟩
    exact (if_pos (of_eq_true z00)).trans e2
  | none =>
    rw [q] at R1 h2 l
    obtain ⟨σ2, mo2, u2, e2, R2, h3⟩ := HG σ1 mo1 u1 R1.1 R1.2.1 l h1 (h2 rfl)
    refine ⟨σ2, mo2, u2, ?_, R1.tr R2, h3⟩
    exact (if_neg n10).trans e2
theorem m_rs (S : MS σ x mo u r w sm) (K : KM c len e sm) {p : Nat} (P : PL mo p e len) (hp : p ≤ len) : ∃ σ' mo' u', fX10_readsStatement σ (x + 36) = some (nI (sv (flt c len p)), σ') ∧ MR σ σ' x mo mo' u' r w sm (sp (flt c len p) (p + dgs (c p) + 2)) e len ∧ (flt c len p = none → UN c p u') := by
  have hl := K.2.1
  obtain ⟨σ1, mo1, e1, R1⟩ := S.adv' P (p + 1)
  obtain ⟨S1, P1, f1, m1⟩ := id R1
  have no : ∀ v : Int32, v ≠ 104 → v ≠ 110 → v ≠ 112 → v ≠ 114 → v ≠ 115 → v ≠ 119 → v ≠ 121 → fX10_here σ (x + 36) = some v → (p < len → dgs (c p) = 0) → ∃ σ' mo' u', fX10_readsStatement σ (x + 36) = some (nI (sv (flt c len p)), σ') ∧ MR σ σ' x mo mo' u' r w sm (sp (flt c len p) (p + dgs (c p) + 2)) e len ∧ (flt c len p = none → UN c p u') := by
    intro v v1 v2 v3 v4 v5 v6 v7 hv hd
    obtain ⟨σ2, mo2, e2, R2⟩ := S1.adv' P1 p
    rw [flt_no hd]
    refine ⟨σ2, mo2, u, ?_, R1.tr R2, fun h => by cases h⟩
    unfold fX10_readsStatement
    rw [S.ck, Option.bind_some, hv, Option.bind_some, S.h5, Option.bind_some, P.1, nI_1, e1, Option.bind_some, if_neg v1, if_neg v2, if_neg v3, if_neg v4, if_neg v5, if_neg v6, if_neg v7, S1.h5, Option.bind_some, P1.1, show nI (p + 1) - 1 = nI p from pk_sub (a := p + 1) (b := 1) (by omega), e2, Option.bind_some]
    rfl
  by_cases hlt : p < len
  · have hc := (K.2.2 p hlt).1
    have hv := S.here K P hlt
    have ne : ∀ k, k < 256 → c p ≠ k → nI (c p) ≠ nI k := fun k hk h q => h ((nI_eq (by omega) (by omega)).mp q)
    have ul : p + 1 ≤ len := hlt
    have dd : ∀ d, dgs (c p) = d → d ≠ 0 → flt c len p = orE (scn c len d (p + 1)) (smc c len (p + 1 + d)) := fun d h h0 => flt_st hlt h h0
    have one : ∀ d, d ≤ 5 → dgs (c p) = d → d ≠ 0 → (∀ u' : Nat → Int32, u' 0 = nI (nm c (p + 1) d) → UN c p u') → fX10_readsStatement σ (x + 36) = ((fX10_readsNumber σ1 (x + 36) (nI 0) (nI d)).bind fun y => fX10_readsStatement_218 y.2 (x + 36) y.1) → ∃ σ' mo' u', fX10_readsStatement σ (x + 36) = some (nI (sv (flt c len p)), σ') ∧ MR σ σ' x mo mo' u' r w sm (sp (flt c len p) (p + dgs (c p) + 2)) e len ∧ (flt c len p = none → UN c p u') := by
      intro d hd5 hdd h0 hU hE
      obtain ⟨σ2, mo2, u2, e2, R2, h3, h4⟩ := m_one (i := 0) S1 K P1 ul (by omega) hd5
      rw [dd d hdd h0, hdd, show p + d + 2 = p + 1 + d + 1 by omega, hE, e2]
      exact ⟨σ2, mo2, u2, rfl, R1.tr R2, fun h => hU u2 (h4 (orE_n1 h).1)⟩
    by_cases k1 : c p = 104
    · refine one 2 (by omega) (by rw [k1]; rfl) (by omega) (fun u' h => ⟨fun _ => h, fun h => by omega, fun h => by omega, fun h => by omega, fun h => by omega, fun h => by omega, fun h => by omega⟩) ?_
      (unfold fX10_readsStatement; rw [S.ck, Option.bind_some, hv, Option.bind_some, S.h5, Option.bind_some, P.1, nI_1, e1, Option.bind_some, S1.ck, k1])
      rfl
    by_cases k2 : c p = 112
    · refine one 3 (by omega) (by rw [k2]; rfl) (by omega) (fun u' h => ⟨fun h => by omega, fun h => by omega, fun _ => h, fun h => by omega, fun h => by omega, fun h => by omega, fun h => by omega⟩) ?_
      (unfold fX10_readsStatement; rw [S.ck, Option.bind_some, hv, Option.bind_some, S.h5, Option.bind_some, P.1, nI_1, e1, Option.bind_some, S1.ck, k2])
      rfl
    by_cases k3 : c p = 114
    · refine one 1 (by omega) (by rw [k3]; rfl) (by omega) (fun u' h => ⟨fun h => by omega, fun h => by omega, fun h => by omega, fun _ => h, fun h => by omega, fun h => by omega, fun h => by omega⟩) ?_
      (unfold fX10_readsStatement; rw [S.ck, Option.bind_some, hv, Option.bind_some, S.h5, Option.bind_some, P.1, nI_1, e1, Option.bind_some, S1.ck, k3])
      rfl
    by_cases k4 : c p = 115
    · refine one 1 (by omega) (by rw [k4]; rfl) (by omega) (fun u' h => ⟨fun h => by omega, fun h => by omega, fun h => by omega, fun h => by omega, fun _ => h, fun h => by omega, fun h => by omega⟩) ?_
      (unfold fX10_readsStatement; rw [S.ck, Option.bind_some, hv, Option.bind_some, S.h5, Option.bind_some, P.1, nI_1, e1, Option.bind_some, S1.ck, k4])
      rfl
    by_cases k5 : c p = 121
    · refine one 2 (by omega) (by rw [k5]; rfl) (by omega) (fun u' h => ⟨fun h => by omega, fun h => by omega, fun h => by omega, fun h => by omega, fun h => by omega, fun h => by omega, fun _ => h⟩) ?_
      (unfold fX10_readsStatement; rw [S.ck, Option.bind_some, hv, Option.bind_some, S.h5, Option.bind_some, P.1, nI_1, e1, Option.bind_some, S1.ck, k5])
      rfl
    by_cases k6 : c p = 110
    · have hdd : dgs (c p) = 3 := by rw [k6]; rfl
      obtain ⟨σ2, mo2, u2, e2, R2, h2⟩ := m_chain (i := 0) (n := 1) (Z := p + 1 + 1 + 2 + 1) (o := orE (scn c len 2 (p + 1 + 1)) (smc c len (p + 1 + 1 + 2))) (Q := fun u' => u' 0 = nI (nm c (p + 1) 1) ∧ u' 1 = nI (nm c (p + 2) 2)) (G := fun σ => (ckO σ 3 (x + 36)).bind fun _ => (fX10_readsNumber σ (x + 36) (nI 1) (nI 2)).bind fun y => if y.1 = 0 then fX10_readsStatement_218 y.2 (x + 36) 0 else fX10_readsStatement_218 y.2 (x + 36) (nI 1)) S1 K P1 ul (by omega) (by omega) (fun σ1 mo1 u1 T1 Q1 l1 g1 g2 => by
        obtain ⟨σ2, mo2, u2, e2, R2, h2⟩ := m_chain (i := 1) (n := 2) (Z := p + 1 + 1 + 2 + 1) (o := smc c len (p + 1 + 1 + 2)) (Q := fun u' => u' 0 = nI (nm c (p + 1) 1) ∧ u' 1 = nI (nm c (p + 2) 2)) (G := fun σ => fX10_readsStatement_218 σ (x + 36) (nI 1)) T1 K Q1 l1 (by omega) (by omega) (fun σ3 mo3 u3 T3 Q3 l3 g3 g4 => by
          obtain ⟨σ4, mo4, e4, R4⟩ := m_semi T3 K Q3 l3
          exact ⟨σ4, mo4, u3, e4, R4, fun _ => ⟨(g3 0 (by omega)).trans g2, g4⟩⟩)
        refine ⟨σ2, mo2, u2, ?_, R2, h2⟩
        show ((ckO σ1 3 (x + 36)).bind fun _ => _) = _
        rw [T1.ck, Option.bind_some]
        exact e2)
      have hf : flt c len p = orE (scn c len 1 (p + 1)) (orE (scn c len 2 (p + 1 + 1)) (smc c len (p + 1 + 1 + 2))) := by
        rw [dd 3 hdd (by omega), show (3 : Nat) = 1 + 2 from rfl, scn_add, orE_assoc]
      rw [hf, hdd]
      refine ⟨σ2, mo2, u2, ?_, R1.tr R2, fun h => ?_⟩
      · (unfold fX10_readsStatement; rw [S.ck, Option.bind_some, hv, Option.bind_some, S.h5, Option.bind_some, P.1, nI_1, e1, Option.bind_some, S1.ck, k6])
        exact e2
      · obtain ⟨q1, q2⟩ := h2 h
        exact ⟨fun h => by omega, fun _ => ⟨q1, q2⟩, fun h => by omega, fun h => by omega, fun h => by omega, fun h => by omega, fun h => by omega⟩
    by_cases k7 : c p = 119
    · have hdd : dgs (c p) = 5 := by rw [k7]; rfl
      obtain ⟨σ2, mo2, u2, e2, R2, h2⟩ := m_chain (i := 0) (n := 1) (Z := p + 1 + 1 + 1 + 1 + 2 + 1) (o := orE (scn c len 1 (p + 1 + 1)) (orE (scn c len 1 (p + 1 + 1 + 1)) (orE (scn c len 2 (p + 1 + 1 + 1 + 1)) (smc c len (p + 1 + 1 + 1 + 1 + 2))))) (Q := fun u' => u' 0 = nI (nm c (p + 1) 1) ∧ u' 1 = nI (nm c (p + 2) 1) ∧ u' 2 = nI (nm c (p + 3) 1) ∧ u' 3 = nI (nm c (p + 4) 2)) (G := fun σ => (ckO σ 3 (x + 36)).bind fun _ => (fX10_readsNumber σ (x + 36) (nI 1) (nI 1)).bind fun y => if y.1 = 0 then fX10_readsStatement_218 y.2 (x + 36) 0 else (ckO y.2 3 (x + 36)).bind fun _ => (fX10_readsNumber y.2 (x + 36) (nI 2) (nI 1)).bind fun y => if y.1 = 0 then fX10_readsStatement_218 y.2 (x + 36) 0 else (ckO y.2 3 (x + 36)).bind fun _ => (fX10_readsNumber y.2 (x + 36) (nI 3) (nI 2)).bind fun y => if y.1 = 0 then fX10_readsStatement_218 y.2 (x + 36) 0 else fX10_readsStatement_218 y.2 (x + 36) (nI 1)) S1 K P1 ul (by omega) (by omega) (fun σ1 mo1 u1 T1 Q1 l1 g1 g2 => by
        obtain ⟨σ2, mo2, u2, e2, R2, h2⟩ := m_chain (i := 1) (n := 1) (Z := p + 1 + 1 + 1 + 1 + 2 + 1) (o := orE (scn c len 1 (p + 1 + 1 + 1)) (orE (scn c len 2 (p + 1 + 1 + 1 + 1)) (smc c len (p + 1 + 1 + 1 + 1 + 2)))) (Q := fun u' => u' 0 = nI (nm c (p + 1) 1) ∧ u' 1 = nI (nm c (p + 2) 1) ∧ u' 2 = nI (nm c (p + 3) 1) ∧ u' 3 = nI (nm c (p + 4) 2)) (G := fun σ => (ckO σ 3 (x + 36)).bind fun _ => (fX10_readsNumber σ (x + 36) (nI 2) (nI 1)).bind fun y => if y.1 = 0 then fX10_readsStatement_218 y.2 (x + 36) 0 else (ckO y.2 3 (x + 36)).bind fun _ => (fX10_readsNumber y.2 (x + 36) (nI 3) (nI 2)).bind fun y => if y.1 = 0 then fX10_readsStatement_218 y.2 (x + 36) 0 else fX10_readsStatement_218 y.2 (x + 36) (nI 1)) T1 K Q1 l1 (by omega) (by omega) (fun σ3 mo3 u3 T3 Q3 l3 g3 g4 => by
          obtain ⟨σ2, mo2, u2, e2, R2, h2⟩ := m_chain (i := 2) (n := 1) (Z := p + 1 + 1 + 1 + 1 + 2 + 1) (o := orE (scn c len 2 (p + 1 + 1 + 1 + 1)) (smc c len (p + 1 + 1 + 1 + 1 + 2))) (Q := fun u' => u' 0 = nI (nm c (p + 1) 1) ∧ u' 1 = nI (nm c (p + 2) 1) ∧ u' 2 = nI (nm c (p + 3) 1) ∧ u' 3 = nI (nm c (p + 4) 2)) (G := fun σ => (ckO σ 3 (x + 36)).bind fun _ => (fX10_readsNumber σ (x + 36) (nI 3) (nI 2)).bind fun y => if y.1 = 0 then fX10_readsStatement_218 y.2 (x + 36) 0 else fX10_readsStatement_218 y.2 (x + 36) (nI 1)) T3 K Q3 l3 (by omega) (by omega) (fun σ5 mo5 u5 T5 Q5 l5 g5 g6 => by
            obtain ⟨σ2, mo2, u2, e2, R2, h2⟩ := m_chain (i := 3) (n := 2) (Z := p + 1 + 1 + 1 + 1 + 2 + 1) (o := smc c len (p + 1 + 1 + 1 + 1 + 2)) (Q := fun u' => u' 0 = nI (nm c (p + 1) 1) ∧ u' 1 = nI (nm c (p + 2) 1) ∧ u' 2 = nI (nm c (p + 3) 1) ∧ u' 3 = nI (nm c (p + 4) 2)) (G := fun σ => fX10_readsStatement_218 σ (x + 36) (nI 1)) T5 K Q5 l5 (by omega) (by omega) (fun σ7 mo7 u7 T7 Q7 l7 g7 g8 => by
              obtain ⟨σ4, mo4, e4, R4⟩ := m_semi T7 K Q7 l7
              exact ⟨σ4, mo4, u7, e4, R4, fun _ => ⟨(g7 0 (by omega)).trans ((g5 0 (by omega)).trans ((g3 0 (by omega)).trans g2)), (g7 1 (by omega)).trans ((g5 1 (by omega)).trans g4), (g7 2 (by omega)).trans g6, g8⟩⟩)
            refine ⟨σ2, mo2, u2, ?_, R2, h2⟩
            show ((ckO σ5 3 (x + 36)).bind fun _ => _) = _
            rw [T5.ck, Option.bind_some]
            exact e2)
          refine ⟨σ2, mo2, u2, ?_, R2, h2⟩
          show ((ckO σ3 3 (x + 36)).bind fun _ => _) = _
          rw [T3.ck, Option.bind_some]
          exact e2)
        refine ⟨σ2, mo2, u2, ?_, R2, h2⟩
        show ((ckO σ1 3 (x + 36)).bind fun _ => _) = _
        rw [T1.ck, Option.bind_some]
        exact e2)
      have hf : flt c len p = orE (scn c len 1 (p + 1)) (orE (scn c len 1 (p + 1 + 1)) (orE (scn c len 1 (p + 1 + 1 + 1)) (orE (scn c len 2 (p + 1 + 1 + 1 + 1)) (smc c len (p + 1 + 1 + 1 + 1 + 2))))) := by
        rw [dd 5 hdd (by omega), show (5 : Nat) = 1 + (1 + (1 + 2)) from rfl, scn_add, scn_add, scn_add, orE_assoc, orE_assoc, orE_assoc]
      rw [hf, hdd]
      refine ⟨σ2, mo2, u2, ?_, R1.tr R2, fun h => ?_⟩
      · (unfold fX10_readsStatement; rw [S.ck, Option.bind_some, hv, Option.bind_some, S.h5, Option.bind_some, P.1, nI_1, e1, Option.bind_some, S1.ck, k7])
        exact e2
      · exact ⟨fun h => by omega, fun h => by omega, fun h => by omega, fun h => by omega, fun h => by omega, fun _ => h2 h, fun h => by omega⟩
    exact no (nI (c p)) (ne 104 (by omega) k1) (ne 110 (by omega) k6) (ne 112 (by omega) k2) (ne 114 (by omega) k3) (ne 115 (by omega) k4) (ne 119 (by omega) k7) (ne 121 (by omega) k5) hv (fun _ => by
      unfold dgs
      rw [if_neg k1, if_neg k6, if_neg k2, if_neg k3, if_neg k4, if_neg k7, if_neg k5])
  · exact no (-1) (by decide) (by decide) (by decide) (by decide) (by decide) (by decide) (by decide) (S.gone P (by omega) (by omega)) (fun h => absurd h hlt)
end TN
