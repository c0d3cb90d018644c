/-! PURE: house: how the reference goes over the bytes. -/
section TM
variable {σ : Rho} {x e len : Nat} {c : Nat → Nat} {mo u : Nat → Int32} {r w : Nat → Nat} {sm : Nat → Int32}
def MS (σ : Rho) (x : Nat) (mo u : Nat → Int32) (r w : Nat → Nat) (sm : Nat → Int32) : Prop := MO σ x mo ∧ σ (x + 41) = some (iC 4 u) ∧ ArrR σ (x + 37) r ∧ ArrR σ (x + 40) w ∧ σ (x + 48) = some (iC 800 sm)
def PL (mo : Nat → Int32) (p e len : Nat) : Prop := mo 1 = nI p ∧ mo 2 = nI (100 * e) ∧ mo 3 = nI len
def Fh (σ σ' : Rho) (x : Nat) : Prop := ∀ y, y ≠ x + 36 → y ≠ x + 37 → y ≠ x + 40 → y ≠ x + 41 → σ' y = σ y
theorem Fh.tr {σ σ' σ'' : Rho} {x : Nat} (h : Fh σ σ' x) (g : Fh σ' σ'' x) : Fh σ σ'' x := fun y a b c d => (g y a b c d).trans (h y a b c d)
theorem Fh.rf {σ : Rho} {x : Nat} : Fh σ σ x := fun _ _ _ _ _ => rfl
theorem Fh.o {σ σ' : Rho} {x : Nat} (h : Fr σ σ' (x + 36) 1) : Fh σ σ' x := fun y h1 _ _ _ => h y (by omega)
theorem Fh.s {σ σ' : Rho} {x : Nat} (h : Fr σ σ' (x + 37) 1) : Fh σ σ' x := fun y _ h1 _ _ => h y (by omega)
theorem Fh.k40 {σ σ' : Rho} {x : Nat} (h : Fr σ σ' (x + 40) 1) : Fh σ σ' x := fun y _ _ h1 _ => h y (by omega)
theorem Fh.k41 {σ σ' : Rho} {x : Nat} (h : Fr σ σ' (x + 41) 1) : Fh σ σ' x := fun y _ _ _ h1 => h y (by omega)
def KM (c : Nat → Nat) (len e : Nat) (sm : Nat → Int32) : Prop := e < 8 ∧ len ≤ 100 ∧ ∀ j, j < len → c j < 256 ∧ sm (100 * e + j) &&& 255 = nI (c j)
theorem MS.h5 (S : MS σ x mo u r w sm) : gI σ 3 (x + 36) 5 = some (mo 1) := gI_at S.1 rfl
theorem MS.h6 (S : MS σ x mo u r w sm) : gI σ 3 (x + 36) 6 = some (mo 2) := gI_at S.1 rfl
theorem MS.h7 (S : MS σ x mo u r w sm) : gI σ 3 (x + 36) 7 = some (mo 3) := gI_at S.1 rfl
theorem MS.h8 (S : MS σ x mo u r w sm) : gR σ 3 (x + 36) 8 = some (x + 41) := gR_at S.1 rfl
theorem MS.h17 (S : MS σ x mo u r w sm) : gR σ 3 (x + 36) 17 = some (x + 48) := gR_at S.1 rfl
theorem MS.ck (S : MS σ x mo u r w sm) : ckO σ 3 (x + 36) = some () := ckO_at S.1
theorem MS.here (S : MS σ x mo u r w sm) (K : KM c len e sm) {p : Nat} (P : PL mo p e len) (hp : p < len) : fX10_here σ (x + 36) = some (nI (c p)) := by
  obtain ⟨k1, k2, k3⟩ := K
  unfold fX10_here
  rw [S.h5, S.h7, S.h6, S.h17, P.1, P.2.1, P.2.2, Option.bind_some, Option.bind_some, if_neg (nI_ge hp (by omega)), Option.bind_some, Option.bind_some, Option.bind_some, nI_add, ldI_at S.2.2.2.2 (show 100 * e + p < 800 by omega) (by omega), Option.bind_some, (k3 p hp).2]
theorem MS.gone (S : MS σ x mo u r w sm) {p : Nat} (P : PL mo p e len) (hp : len ≤ p) (hb : p < 2 ^ 31) : fX10_here σ (x + 36) = some (-1) := by
  unfold fX10_here
  rw [S.h5, S.h7, P.1, P.2.2, Option.bind_some, Option.bind_some, if_pos (nI_le hp hb)]
theorem MS.adv (S : MS σ x mo u r w sm) {p : Nat} (P : PL mo p e len) (p' : Nat) : ∃ σ', ptV σ 3 (x + 36) 5 (.int (nI p')) = some σ' ∧ MS σ' x (upd mo 1 (nI p')) u r w sm ∧ PL (upd mo 1 (nI p')) p' e len ∧ Fh σ σ' x := by
  obtain ⟨σ', e1, e2, e3⟩ := S.1.pt (k := 5) (j := 1) (by omega) (nI p')
  refine ⟨σ', e1, ⟨e3, (e2 _ (by omega)).trans S.2.1, ArrR.fr (e2 _ (by omega)) S.2.2.1, ArrR.fr (e2 _ (by omega)) S.2.2.2.1, (e2 _ (by omega)).trans S.2.2.2.2⟩, ⟨?_, ?_, ?_⟩, Fh.o e2⟩
  · rw [upd_if, if_pos rfl]
  · rw [upd_if, if_neg (by omega)]; exact P.2.1
  · rw [upd_if, if_neg (by omega)]; exact P.2.2
theorem MS.su (S : MS σ x mo u r w sm) {i : Nat} (hi : i < 4) (v : Int32) : ∃ σ', stI σ (x + 41) (nI i) v = some σ' ∧ MS σ' x mo (upd u i v) r w sm ∧ Fh σ σ' x := by
  refine ⟨_, stI_at S.2.1 hi (by omega), ⟨(rset_n (by omega)).trans S.1, rset_s, ArrR.fr (rset_n (by omega)) S.2.2.1, ArrR.fr (rset_n (by omega)) S.2.2.2.1, (rset_n (by omega)).trans S.2.2.2.2⟩, Fh.k41 (Fr.set (by omega) (by omega))⟩
theorem MS.ss (S : MS σ x mo u r w sm) {j : Nat} (hj : j < 49) (h0 : j ≠ 0) (v : Nat) : ∃ σ', stI σ (x + 37) (nI j) (nI v) = some σ' ∧ MS σ' x mo u (setE r j v) w sm ∧ Fh σ σ' x := by
  obtain ⟨σ', e1, e2, e3⟩ := S.2.2.1.set hj h0 v
  exact ⟨σ', e1, ⟨(e2 _ (by omega)).trans S.1, (e2 _ (by omega)).trans S.2.1, e3, ArrR.fr (e2 _ (by omega)) S.2.2.2.1, (e2 _ (by omega)).trans S.2.2.2.2⟩, Fh.s e2⟩
/-- how a state of the reference goes on: the same but for its place, its numbers -/
def MR (σ σ' : Rho) (x : Nat) (mo mo' : Nat → Int32) (u' : Nat → Int32) (r w : Nat → Nat) (sm : Nat → Int32) (p' e len : Nat) : Prop := MS σ' x mo' u' r w sm ∧ PL mo' p' e len ∧ Fh σ σ' x ∧ ∀ j, j ≠ 1 → mo' j = mo j
theorem MR.tr {σ σ' σ'' : Rho} {mo mo' mo'' u' u'' : Nat → Int32} {p' p'' : Nat} (h : MR σ σ' x mo mo' u' r w sm p' e len) (g : MR σ' σ'' x mo' mo'' u'' r w sm p'' e len) : MR σ σ'' x mo mo'' u'' r w sm p'' e len := ⟨g.1, g.2.1, h.2.2.1.tr g.2.2.1, fun j hj => (g.2.2.2 j hj).trans (h.2.2.2 j hj)⟩
theorem MS.adv' (S : MS σ x mo u r w sm) {p : Nat} (P : PL mo p e len) (p' : Nat) : ∃ σ' mo', ptV σ 3 (x + 36) 5 (.int (nI p')) = some σ' ∧ MR σ σ' x mo mo' u r w sm p' e len := by
  obtain ⟨σ', e1, e2, e3, e4⟩ := S.adv P p'
  exact ⟨σ', _, e1, e2, e3, e4, fun j hj => by rw [upd_if, if_neg hj]⟩
theorem m_isDig (ρ : Rho) {k : Nat} (hk : k < 256) : fX10_isIn ρ (nI k) 48 57 = some (nI (if 48 ≤ k ∧ k ≤ 57 then 1 else 0)) := by
  by_cases q : 48 ≤ k ∧ k ≤ 57
  · rw [if_pos q]
    exact m_isIn_in ρ (lo := 48) (hi := 57) q.1 q.2 (by omega)
  · rw [if_neg q]
    by_cases q1 : k < 48
    · exact m_isIn_out ρ (Or.inl (show nI k < nI 48 from nI_lt q1 (by omega)))
    · exact m_isIn_out ρ (Or.inr (show nI 57 < nI k from nI_lt (by omega) (by omega)))
theorem m_rn (S : MS σ x mo u r w sm) (K : KM c len e sm) {p i n : Nat} (P : PL mo p e len) (hp : p ≤ len) (hi : i < 4) (hn : n ≤ 5) : ∃ σ' mo' u', fX10_readsNumber σ (x + 36) (nI i) (nI n) = some (nI (sv (scn c len n p)), σ') ∧ MR σ σ' x mo mo' u' r w sm (sp (scn c len n p) (p + n)) e len ∧ (∀ j, j ≠ i → u' j = u j) ∧ (scn c len n p = none → u' i = nI (nm c p n)) := by
  have hl := K.2.1
  have key : ∀ k m j σ1 mo1 u1, j + k = n → k < m → MR σ σ1 x mo mo1 u1 r w sm (p + j) e len → p + j ≤ len → (∀ j, j ≠ i → u1 j = u j) → u1 i = nI (nm c p j) → ∃ σ' mo' u', fX10_readsNumber_9 m σ1 (x + 36) (nI i) (nI n) (nI j) = some (nI (sv (scn c len k (p + j))), σ') ∧ MR σ σ' x mo mo' u' r w sm (sp (scn c len k (p + j)) (p + n)) e len ∧ (∀ j, j ≠ i → u' j = u j) ∧ (scn c len k (p + j) = none → u' i = nI (nm c p n)) := by
    intro k
    induction k with
    | zero =>
      intro m j σ1 mo1 u1 hj hm R hpj h1 h2
      obtain ⟨m, rfl⟩ : ∃ p0, m = p0 + 1 := ⟨m - 1, by omega⟩
      obtain rfl : j = n := by omega
      rw [fX10_readsNumber_9, if_pos (nI_le (Nat.le_refl _) (by omega))]
      exact ⟨σ1, mo1, u1, rfl, R, h1, fun _ => h2⟩
    | succ k ih =>
      intro m j σ1 mo1 u1 hj hm R hpj h1 h2
      obtain ⟨m, rfl⟩ : ∃ p0, m = p0 + 1 := ⟨m - 1, by omega⟩
      obtain ⟨S1, P1, f1, m1⟩ := id R
      rw [fX10_readsNumber_9, if_neg (nI_ge (show j < n by omega) (by omega)), S1.ck, Option.bind_some, scn]
      by_cases q : p + j < len
      · have hc := (K.2.2 _ q).1
        rw [S1.here K P1 q, Option.bind_some, m_isDig σ1 hc, Option.bind_some]
        by_cases q2 : 48 ≤ c (p + j) ∧ c (p + j) ≤ 57
        · obtain ⟨σ2, e2, S2, f2⟩ := S1.su hi (nI (10 * nm c p j + c (p + j) - 48))
          obtain ⟨σ3, mo3, e3, S3, P3, f3, m3⟩ := S2.adv' P1 (p + j + 1)
          obtain ⟨σ', mo', u', e, z⟩ := ih m (j + 1) σ3 mo3 _ (by omega) (by omega) ⟨S3, P3, (f1.tr f2).tr f3, fun y hy => (m3 y hy).trans (m1 y hy)⟩ (by omega) (fun y hy => by rw [upd_if, if_neg hy]; exact h1 y hy) (by rw [upd_if, if_pos rfl, nm])
          refine ⟨σ', mo', u', ?_, ?_⟩
          · rw [if_pos q2, if_neg n10, S1.h8, Option.bind_some, Option.bind_some, ldI_at S1.2.1 hi (by omega), Option.bind_some, Option.bind_some, Option.bind_some, h2, show (10 : Int32) * nI (nm c p j) = nI (10 * nm c p j) from pk_mul 10 _, nI_add, show nI (10 * nm c p j + c (p + j)) - 48 = nI (10 * nm c p j + c (p + j) - 48) from pk_sub (b := 48) (by omega), e2, Option.bind_some, S2.h5, Option.bind_some, P1.1, nI_1, e3, Option.bind_some, nI_1, if_pos ⟨q, q2⟩]
            exact e
          · rw [if_pos ⟨q, q2⟩]
            exact z
        · rw [if_neg q2, if_pos (of_eq_true z00), if_neg (show ¬ (p + j < len ∧ 48 ≤ c (p + j) ∧ c (p + j) ≤ 57) from fun h => q2 h.2)]
          exact ⟨σ1, mo1, u1, rfl, R, h1, fun h => by cases h⟩
      · rw [S1.gone P1 (by omega) (by omega), Option.bind_some, show fX10_isIn σ1 (-1) 48 57 = some (nI 0) from m_isIn_out σ1 (Or.inl (by decide)), Option.bind_some, if_pos (of_eq_true z00), if_neg (show ¬ (p + j < len ∧ 48 ≤ c (p + j) ∧ c (p + j) ≤ 57) from fun h => q h.1)]
        exact ⟨σ1, mo1, u1, rfl, R, h1, fun h => by cases h⟩
  obtain ⟨σ2, e2, S2, f2⟩ := S.su hi (nI 0)
  obtain ⟨σ', mo', u', e, z⟩ := key n FU 0 σ2 mo _ (by omega) (FU_gt (by omega)) ⟨S2, P, f2, fun _ _ => rfl⟩ (by omega) (fun y hy => by rw [upd_if, if_neg hy]) (by rw [upd_if, if_pos rfl]; rfl)
  refine ⟨σ', mo', u', ?_, z⟩
  unfold fX10_readsNumber
  rw [S.h8, Option.bind_some, show stI σ (x + 41) (nI i) 0 = some σ2 from e2, Option.bind_some]
  exact e
theorem m_semi (S : MS σ x mo u r w sm) (K : KM c len e sm) {p : Nat} (P : PL mo p e len) (hp : p ≤ len) : ∃ σ' mo', fX10_readsStatement_218 σ (x + 36) (nI 1) = some (nI (sv (smc c len p)), σ') ∧ MR σ σ' x mo mo' u r w sm (sp (smc c len p) (p + 1)) e len := by
  have hl := K.2.1
  rw [fX10_readsStatement_218, if_neg n10, S.ck, Option.bind_some]
  unfold smc
  by_cases q : p < len
  · rw [S.here K P q, Option.bind_some]
    have hc := (K.2.2 _ q).1
    by_cases q2 : c p = 59
    · obtain ⟨σ3, mo3, e3, R3⟩ := S.adv' P (p + 1)
      rw [if_pos (show nI (c p) = 59 from (nI_eq (b := 59) (by omega) (by omega)).mpr q2), S.h5, Option.bind_some, P.1, nI_1, e3, Option.bind_some, if_pos ⟨q, q2⟩]
      exact ⟨σ3, mo3, rfl, R3⟩
    · rw [if_neg (show ¬ nI (c p) = 59 from fun h => q2 ((nI_eq (b := 59) (by omega) (by omega)).mp h)), if_neg (show ¬ (p < len ∧ c p = 59) from fun h => q2 h.2)]
      exact ⟨σ, mo, rfl, S, P, Fh.rf, fun _ _ => rfl⟩
  · rw [S.gone P (by omega) (by omega), Option.bind_some, if_neg (show ¬ (-1 : Int32) = 59 by decide), if_neg (show ¬ (p < len ∧ c p = 59) from fun h => q h.1)]
    exact ⟨σ, mo, rfl, S, P, Fh.rf, fun _ _ => rfl⟩
def UN (c : Nat → Nat) (p : Nat) (u : Nat → Int32) : Prop :=
  (c p = 104 → u 0 = nI (nm c (p + 1) 2)) ∧
  (c p = 110 → u 0 = nI (nm c (p + 1) 1) ∧ u 1 = nI (nm c (p + 2) 2)) ∧
  (c p = 112 → u 0 = nI (nm c (p + 1) 3)) ∧
  (c p = 114 → u 0 = nI (nm c (p + 1) 1)) ∧
  (c p = 115 → u 0 = nI (nm c (p + 1) 1)) ∧
  (c p = 119 → u 0 = nI (nm c (p + 1) 1) ∧ u 1 = nI (nm c (p + 2) 1) ∧ u 2 = nI (nm c (p + 3) 1) ∧ u 3 = nI (nm c (p + 4) 2)) ∧
  (c p = 121 → u 0 = nI (nm c (p + 1) 2))
theorem m_semi0 (S : MS σ x mo u r w sm) {p : Nat} (P : PL mo p e len) : ∃ σ' mo', fX10_readsStatement_218 σ (x + 36) (nI 0) = some (nI 0, σ') ∧ MR σ σ' x mo mo' u r w sm p e len := by
  rw [fX10_readsStatement_218, if_pos (of_eq_true z00)]
  exact ⟨σ, mo, rfl, S, P, Fh.rf, fun _ _ => rfl⟩
/-- a number, then the end -/
theorem m_one (S : MS σ x mo u r w sm) (K : KM c len e sm) {p i n : Nat} (P : PL mo p e len) (hp : p ≤ len) (hi : i < 4) (hn : n ≤ 5) : ∃ σ' mo' u', ((fX10_readsNumber σ (x + 36) (nI i) (nI n)).bind fun y => fX10_readsStatement_218 y.2 (x + 36) y.1) = some (nI (sv (orE (scn c len n p) (smc c len (p + n)))), σ') ∧ MR σ σ' x mo mo' u' r w sm (sp (orE (scn c len n p) (smc c len (p + n))) (p + n + 1)) e len ∧ (∀ j, j ≠ i → u' j = u j) ∧ (scn c len n p = none → u' i = nI (nm c p n)) := by
  obtain ⟨σ1, mo1, u1, e1, R1, h1, h2⟩ := m_rn S K P hp hi hn
  have l := scn_le (c := c) (len := len) n p hp
  rw [e1, Option.bind_some]
  cases q : scn c len n p with
  | some f =>
    rw [q] at R1 h2
    obtain ⟨σ2, mo2, e2, R2⟩ := m_semi0 R1.1 R1.2.1
    exact ⟨σ2, mo2, u1, e2, R1.tr R2, h1, h2⟩
  | none =>
    rw [q] at R1 h2 l
    obtain ⟨σ2, mo2, e2, R2⟩ := m_semi R1.1 K R1.2.1 l
    exact ⟨σ2, mo2, u1, e2, R1.tr R2, h1, h2⟩
end TM
