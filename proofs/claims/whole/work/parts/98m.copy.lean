/-! PURE: element, copy. -/
theorem m_el43 {ρ : Rho} {x : Nat} {mo : Nat → Int32} {sk : Nat → Nat → Int32} {sm : Nat → Int32} (O : MO ρ x mo) (K : ShM ρ x sk sm) (k : Nat) (v1 v2 : Int32) : ∃ ρ', Fr ρ ρ' (x + 36) 1 ∧ MO ρ' x (upd mo 6 (nI k)) ∧ (k ≠ 0 → k < 3 → fX10_element_43 ρ (x + 36) v1 v2 (nI k) (x + 36) = some (0, ρ')) ∧ (k = 0 → ∀ e j, e < 8 → j < 100 → v1 = nI e → v2 = nI j → fX10_element_43 ρ (x + 36) v1 v2 (nI k) (x + 36) = some ((sm (100 * e + j)).toInt64, ρ')) := by
  obtain ⟨ρ', a1, a2, a3⟩ := O.pt (k := 18) (j := 6) (by omega) (nI k)
  have g : gI ρ' 3 (x + 36) 18 = some (nI k) := gI_at a3 rfl
  refine ⟨ρ', a2, a3, fun h0 h3 => ?_, fun h0 e j he hj e1 e2 => ?_⟩
  · unfold fX10_element_43
    rw [a1, Option.bind_some, g, Option.bind_some, if_neg (nI_ne0 (by omega) (by omega))]
  · subst e1 e2 h0
    have K5 : ρ' (x + 48) = some (iC 800 sm) := (a2 (x + 48) (by omega)).trans K.2
    unfold fX10_element_43
    rw [a1, Option.bind_some, g, Option.bind_some, if_pos nI_0, a3.k17, Option.bind_some, fa_lit 100, pk_mul, nI_add, ldI_at K5 (by omega) (by omega), Option.bind_some]
theorem sim_element : Sim_element Rel := by
  intro ρ z0 x q o a1 a2 hR hf
  obtain ⟨z, h, n, i, d, sf, se, mo, a, b, g, w, u, t, sk, sm, ⟨hx, hq, ho⟩, I, gd, sh⟩ := id hR
  subst hq ho
  subst hx
  obtain ⟨⟨g1, g2⟩, ⟨ea, ok, bt⟩, gi⟩ := id gd
  have hA : ArrR ρ (x + 37) n.1 := ea ▸ I.A
  have F := I.N.f ok.1.1
  have G := hA.f ok.1.1
  have X1 : gR ρ 2 x 0 = some (x + 1) := gR_at I.X rfl
  have M0 : ckO ρ 3 (x + 36) = some () := ckO_at I.O
  have M1 : gR ρ 3 (x + 36) 0 = some (x + 37) := gR_at I.O rfl
  have T := I.sg
  -- where it is refused
  have no : ∀ k, k ≠ 0 → k < 3 → fL_element ρ x a1 a2 (x + 49) = some (nI k, ρ) → fX10_element ρ (x + 36) a1 a2 = fX10_element_43 ρ (x + 36) a1 a2 (nI k) (x + 36) → ∃ (r : Int32) (ρ1 : Rho) (u : Unit) (b : Int64) (ρ2 : Rho) (u2 : Unit), fL_element ρ x a1 a2 (x + 49) = some (r, ρ1) ∧ ckO ρ1 3 (x + 36) = some u ∧ fX10_element ρ1 (x + 36) a1 a2 = some (b, ρ2) ∧ ckO ρ2 3 (x + 36) = some u2 ∧ fX10_thrown ρ2 (x + 36) = some r ∧ (r = 0 → ldL ρ2 (x + 49) 0 = some b) ∧ Rel ρ2 x (x + 36) (x + 49) := by
    intro k k0 k3 h1 h2
    obtain ⟨ρ', a1', a2', a3', -⟩ := m_el43 I.O I.K k a1 a2
    refine ⟨nI k, ρ, (), 0, ρ', (), h1, M0, h2.trans (a3' k0 k3), ckO_at a2', ?_, fun q => absurd q (nI_ne0 (by omega) (by omega)), x, h, n, i, d, sf, se, _, a, b, g, w, u, t, sk, sm, ⟨rfl, rfl, rfl⟩, I.uO (fun j hj hc => a1' (x + j) (by omega)) a2', ⟨⟨g1, (pk_un (by omega)).trans g2⟩, ⟨ea, ok, bt⟩, gi⟩, sh⟩
    unfold fX10_thrown
    rw [gI_at a2' (show _ = some (Value.int (upd mo 6 (nI k) 6)) from rfl), pk_us, Option.bind_some]
  rcases or_assoc.mpr (rng a1 (lo := 0) (hi := 7) (by omega) (by omega)) with c | ⟨e, -, he, rfl⟩
  · refine no 1 (by omega) (by omega) ?_ ?_
    · unfold fL_element fX9_element
      rw [ckO_at I.X, Option.bind_some, x_shelf_out ρ c, Option.bind_some, if_pos nI_0]
      rfl
    · unfold fX10_element
      rw [m_shelf_out ρ c, Option.bind_some, if_pos nI_0]
      rfl
  have he : e < 8 := by omega
  have Se : SF ρ x (x + 36) sf se sk sm e := SF.mk I.S I.K he
  obtain ⟨cc, hc, c1, c2⟩ := sh_c sh he
  rcases (show cc = 0 ∨ cc = 1 ∨ cc = 2 by omega) with rfl | rfl | rfl
  · refine no 2 (by omega) (by omega) ?_ ?_
    · unfold fL_element fX9_element
      simp only [Option.bind_some, n10, if_false, ckO_at I.X, x_shelf_in ρ he, T.1, Se.1.1, Se.1.2.1, x_refR Se hc c1, show rvR 0 = -11 from rfl, show ¬ ((0 : Int32) ≤ -11) by decide]
      rfl
    · unfold fX10_element fX10_element_38
      simp only [Option.bind_some, n10, if_false, m_shelf_in ρ he, T.2.1, Se.2.1.1, c2, show ¬ (nI 0 = (2 : Int32)) by decide]
      rfl
  · refine no 2 (by omega) (by omega) ?_ ?_
    · unfold fL_element fX9_element
      simp only [Option.bind_some, n10, if_false, ckO_at I.X, x_shelf_in ρ he, T.1, Se.1.1, Se.1.2.1, x_refR Se hc c1, show rvR 1 = -12 from rfl, show ¬ ((0 : Int32) ≤ -12) by decide]
      rfl
    · unfold fX10_element fX10_element_38
      simp only [Option.bind_some, n10, if_false, m_shelf_in ρ he, T.2.1, Se.2.1.1, c2, show ¬ (nI 1 = (2 : Int32)) by decide]
      rfl
  obtain ⟨so, len, ⟨hso, hlen⟩, x3, x4, k3, k4, hE, hB⟩ := sh_r sh he c1
  rcases or_assoc.mpr (rng0 a2 (n := len) (by omega)) with c | ⟨j, hj, rfl⟩
  · refine no 2 (by omega) (by omega) ?_ ?_
    · unfold fL_element fX9_element
      simp only [Option.bind_some, n10, if_false, ckO_at I.X, x_shelf_in ρ he, T.1, Se.1.1, Se.1.2.1, x_refR Se hc c1, rvR2, le00, if_true, x_place_out Se x4 c, z00]
      rfl
    · unfold fX10_element fX10_element_38
      simp only [Option.bind_some, n10, if_false, m_shelf_in ρ he, T.2.1, Se.2.1.1, c2, show (nI 2 = (2 : Int32)) = True from eq_true rfl, if_true, T.2.2.2.2.2.1, Se.2.1.2.2.2.2, k4, m_lt_out ρ c (show len < 2 ^ 31 by omega), z00]
      rfl
  obtain ⟨f, hf⟩ := I.Q
  have q1 : stL ρ (x + 49) 0 (se e j).toInt64 = some (rset ρ (x + 49) (lC 1 (vp_updL f 0 (se e j).toInt64))) := by
    unfold stL
    rw [hf]
    rfl
  have I1 := I.uQ (ρ' := rset ρ (x + 49) (lC 1 (vp_updL f 0 (se e j).toInt64))) (fun j hj hc => rset_n (by omega)) ⟨_, rset_s⟩
  have q2 : (rset ρ (x + 49) (lC 1 (vp_updL f 0 (se e j).toInt64))) (x + 49) = some (lC 1 (vp_updL f 0 (se e j).toInt64)) := rset_s
  generalize rset ρ (x + 49) (lC 1 (vp_updL f 0 (se e j).toInt64)) = ρ1 at q1 I1 q2
  have T1 := I1.sg
  have S1 : SF ρ1 x (x + 36) sf se sk sm e := SF.mk I1.S I1.K he
  obtain ⟨ρ', d1, d2, -, d4⟩ := m_el43 I1.O I1.K 0 (nI e) (nI j)
  refine ⟨0, ρ1, (), (se e j).toInt64, ρ', (), ?_, ckO_at I1.O, ?_, ckO_at d2, ?_, fun _ => ?_, x, h, n, i, d, sf, se, _, a, b, g, w, u, t, sk, sm, ⟨rfl, rfl, rfl⟩, I1.uO (fun j hj hc => d1 (x + j) (by omega)) d2, ⟨⟨g1, (pk_un (by omega)).trans g2⟩, ⟨ea, ok, bt⟩, gi⟩, sh⟩
  · unfold fL_element fX9_element
    simp only [Option.bind_some, n10, if_false, ckO_at I.X, x_shelf_in ρ he, T.1, Se.1.1, Se.1.2.1, x_refR Se hc c1, rvR2, le00, if_true, x_place_in Se x4 hlen hj, Se.1.2.2.2.1, Se.1.2.2.2.2 j (by omega), q1]
  · unfold fX10_element
    simp only [Option.bind_some, n10, if_false, m_shelf_in ρ1 he, T1.2.1, S1.2.1.1, c2, show (nI 2 = (2 : Int32)) = True from eq_true rfl, if_true, T1.2.2.2.2.2.1, S1.2.1.2.2.2.2, k4, m_lt_in ρ1 hj (show len < 2 ^ 31 by omega)]
    rw [hE j (by omega)]
    exact d4 rfl e j he (by omega) rfl rfl
  · unfold fX10_thrown
    rw [gI_at d2 (show _ = some (Value.int (upd mo 6 (nI 0) 6)) from rfl), pk_us, Option.bind_some]
    rfl
  · unfold ldL
    rw [d1 (x + 49) (by omega), q2]
    show some (vp_updL f 0 (se e j).toInt64 0) = _
    rw [pk_uLs]
theorem sub_ti {a b : Nat} (ha : a ≤ 100) (hb : b < 2 ^ 31) : (nI a - nI b).toInt = (a : Int) - b := by
  rw [Int32.toInt_sub, nI_toInt (by omega), nI_toInt hb]
  apply Int.bmod_eq_of_le <;> omega
/-- what a stretch is, both sides alike -/
def Str (len : Nat) (v n : Int32) : Prop := ∃ V N, v = nI V ∧ n = nI N ∧ V + N ≤ len
theorem x_stretchC {ρ : Rho} {x q e len : Nat} {sf se sk : Nat → Nat → Int32} {sm : Nat → Int32} (S : SF ρ x q sf se sk sm e) (h4 : sf e 4 = nI len) (hl : len ≤ 100) (v n : Int32) : (Str len v n → fX6_isStretch ρ (x + 20 + 2 * e) v n = some (nI 1)) ∧ (¬ Str len v n → fX6_isStretch ρ (x + 20 + 2 * e) v n = some (nI 0)) := by
  unfold fX6_isStretch
  by_cases c1 : n < 0
  · rw [if_pos c1]
    exact ⟨fun ⟨V, N, _, e2, e3⟩ => absurd (e2 ▸ c1) (nI_pos (by omega)), fun _ => rfl⟩
  obtain ⟨N, hN, rfl⟩ := nI_of c1
  rw [if_neg c1, S.1.2.2.1.2.2.2.2, h4, Option.bind_some, Option.bind_some]
  by_cases c2 : len < N
  · rw [if_pos (nI_lt c2 hN)]
    exact ⟨fun ⟨V, N', _, e2, e3⟩ => absurd ((nI_eq hN (by omega)).mp e2) (by omega), fun _ => rfl⟩
  rw [if_neg (nI_nlt (by omega) (by omega))]
  by_cases c3 : v < 0
  · rw [if_pos c3]
    exact ⟨fun ⟨V, N', e1, _, e3⟩ => absurd (e1 ▸ c3) (nI_pos (by omega)), fun _ => rfl⟩
  obtain ⟨V, hV, rfl⟩ := nI_of c3
  rw [if_neg c3, pk_sub (show N ≤ len by omega)]
  by_cases c4 : len - N < V
  · rw [if_pos (nI_lt c4 hV)]
    exact ⟨fun ⟨V', N', e1, e2, e3⟩ => absurd ((nI_eq hN (by omega)).mp e2) (by have := (nI_eq hV (by omega)).mp e1; omega), fun _ => rfl⟩
  · rw [if_neg (nI_nlt (by omega) (by omega))]
    exact ⟨fun _ => rfl, fun q => absurd ⟨V, N, rfl, rfl, by omega⟩ q⟩
def cpE (se : Nat → Nat → Int32) (e1 e2 V W N : Nat) : Nat → Nat → Int32 := fun e => if e = e2 then va_cpy (se e1) (se e2) V W N else se e
theorem cpE_s {se : Nat → Nat → Int32} {e1 e2 V W N : Nat} : cpE se e1 e2 V W N e2 = va_cpy (se e1) (se e2) V W N := if_pos rfl
theorem cpE_n {se : Nat → Nat → Int32} {e1 e2 V W N e : Nat} (h : e ≠ e2) : cpE se e1 e2 V W N e = se e := if_neg h
theorem m_copyL {ρ : Rho} {x e1 e2 i j n : Nat} {mo : Nat → Int32} {sk : Nat → Nat → Int32} {sm : Nat → Int32} (O : MO ρ x mo) (K : ShM ρ x sk sm) (h1 : e1 < 8) (h2 : e2 < 8) (hi : i + n ≤ 100) (hj : j + n ≤ 100) : ∃ ρ' sm', fX10_copy_122 FU ρ (x + 36) (nI e1) (nI i) (nI e2) (nI j) (nI n) (nI 0) = some (nI n, ρ') ∧ Fr ρ ρ' (x + 43) 6 ∧ ShM ρ' x sk sm' ∧ ∀ e k, k < 100 → sm' (100 * e + k) = if e = e2 ∧ j ≤ k ∧ k < j + n then sm (100 * e1 + (i + (k - j))) else sm (100 * e + k) := by
  have key : ∀ k m y σ sm1, y + k = n → k < m → Fr ρ σ (x + 43) 6 → ShM σ x sk sm1 → (∀ e k, k < 100 → sm1 (100 * e + k) = if e = e2 ∧ ((i ≤ j ∧ j + n - y ≤ k ∧ k < j + n) ∨ (j < i ∧ j ≤ k ∧ k < j + y)) then sm (100 * e1 + (i + (k - j))) else sm (100 * e + k)) → ∃ ρ' sm', fX10_copy_122 m σ (x + 36) (nI e1) (nI i) (nI e2) (nI j) (nI n) (nI y) = some (nI n, ρ') ∧ Fr ρ ρ' (x + 43) 6 ∧ ShM ρ' x sk sm' ∧ ∀ e k, k < 100 → sm' (100 * e + k) = if e = e2 ∧ j ≤ k ∧ k < j + n then sm (100 * e1 + (i + (k - j))) else sm (100 * e + k) := by
    intro k
    induction k with
    | zero =>
      intro m y σ sm1 hy hm fr hs h
      obtain ⟨m, rfl⟩ : ∃ p0, m = p0 + 1 := ⟨m - 1, by omega⟩
      rw [fX10_copy_122, if_pos (nI_le (by omega) (by omega))]
      refine ⟨σ, sm1, rfl, fr, hs, fun e k hk => ?_⟩
      rw [h e k hk]
      by_cases q : e = e2 ∧ j ≤ k ∧ k < j + n
      · rw [if_pos q, if_pos (by omega)]
      · rw [if_neg q, if_neg (by omega)]
    | succ k ih =>
      intro m y σ sm1 hy hm fr hs h
      obtain ⟨m, rfl⟩ : ∃ p0, m = p0 + 1 := ⟨m - 1, by omega⟩
      have hlt : y < n := by omega
      have O2 : MO σ x mo := (fr (x + 36) (by omega)).trans O
      rw [fX10_copy_122, if_neg (nI_ge hlt (by omega))]
      by_cases c : i ≤ j
      · obtain ⟨σ1, a1, a2, a3⟩ := hs.pm (j := 100 * e2 + (j + (n - 1 - y))) (by omega) (sm (100 * e1 + (i + (n - 1 - y))))
        have rd : ldI σ (x + 48) (nI (100 * e1 + i + (n - 1 - y))) = some (sm (100 * e1 + (i + (n - 1 - y)))) := by
          rw [ldI_at hs.2 (by omega) (by omega), Nat.add_assoc, h e1 _ (by omega), if_neg (by omega)]
        have es : nI n - 1 - nI y = nI (n - 1 - y) := by
          rw [show (1 : Int32) = nI 1 from rfl, pk_sub (by omega), pk_sub (by omega)]
        rw [if_pos (nI_le c (by omega)), fX10_copy_147, O2.k17, Option.bind_some, Option.bind_some, es, fa_lit 100, pk_mul, nI_add, nI_add, rd, Option.bind_some, pk_mul, nI_add, nI_add, Nat.add_assoc (100 * e2), a1, Option.bind_some, nI_1]
        refine ih m (y + 1) σ1 _ (by omega) (by omega) (fr.tr a2) a3 (fun e k hk => ?_)
        by_cases q : 100 * e + k = 100 * e2 + (j + (n - 1 - y))
        · rw [q, pk_us, if_pos (by omega), show k - j = n - 1 - y by omega]
        · rw [pk_un q, h e k hk]
          by_cases q2 : e = e2 ∧ ((i ≤ j ∧ j + n - y ≤ k ∧ k < j + n) ∨ (j < i ∧ j ≤ k ∧ k < j + y))
          · rw [if_pos q2, if_pos (by omega)]
          · rw [if_neg q2, if_neg (by omega)]
      · obtain ⟨σ1, a1, a2, a3⟩ := hs.pm (j := 100 * e2 + (j + y)) (by omega) (sm (100 * e1 + (i + y)))
        have rd : ldI σ (x + 48) (nI (100 * e1 + i + y)) = some (sm (100 * e1 + (i + y))) := by
          rw [ldI_at hs.2 (by omega) (by omega), Nat.add_assoc, h e1 _ (by omega), if_neg (by omega)]
        rw [if_neg (nI_ge (by omega) (by omega)), fX10_copy_147, O2.k17, Option.bind_some, Option.bind_some, fa_lit 100, pk_mul, nI_add, nI_add, rd, Option.bind_some, pk_mul, nI_add, nI_add, Nat.add_assoc (100 * e2), a1, Option.bind_some, nI_1]
        refine ih m (y + 1) σ1 _ (by omega) (by omega) (fr.tr a2) a3 (fun e k hk => ?_)
        by_cases q : 100 * e + k = 100 * e2 + (j + y)
        · rw [q, pk_us, if_pos (by omega), show k - j = y by omega]
        · rw [pk_un q, h e k hk]
          by_cases q2 : e = e2 ∧ ((i ≤ j ∧ j + n - y ≤ k ∧ k < j + n) ∨ (j < i ∧ j ≤ k ∧ k < j + y))
          · rw [if_pos q2, if_pos (by omega)]
          · rw [if_neg q2, if_neg (by omega)]
  exact key n FU 0 ρ sm (by omega) (FU_gt (by omega)) Fr.rf K (fun e k hk => by rw [if_neg (by omega)])
theorem sim_copy : Sim_copy Rel := by
  intro ρ z0 x q o a1 a2 a3 a4 a5 hR hf
  obtain ⟨z, h, n, i, d, sf, se, mo, a, b, g, w, u, t, sk, sm, ⟨hx, hq, ho⟩, I, gd, sh⟩ := id hR
  subst hq ho
  subst hx
  obtain ⟨⟨g1, g2⟩, ⟨ea, ok, bt⟩, gi⟩ := id gd
  have hA : ArrR ρ (x + 37) n.1 := ea ▸ I.A
  have F := I.N.f ok.1.1
  have G := hA.f ok.1.1
  have X1 : gR ρ 2 x 0 = some (x + 1) := gR_at I.X rfl
  have M0 : ckO ρ 3 (x + 36) = some () := ckO_at I.O
  have M1 : gR ρ 3 (x + 36) 0 = some (x + 37) := gR_at I.O rfl
  have T := I.sg
  rcases or_assoc.mpr (rng a1 (lo := 0) (hi := 7) (by omega) (by omega)) with c | ⟨e1, -, h1, rfl⟩
  · refine ww0 hR (fm := fun ρ => fX10_copy ρ (x + 36) a1 a2 a3 a4 a5) ⟨-1, ?_, ?_⟩
    · unfold fX9_copy
      rw [x_shelf_out ρ c, Option.bind_some, if_pos nI_0]
    · show fX10_copy ρ (x + 36) a1 a2 a3 a4 a5 = _
      unfold fX10_copy
      rw [m_shelf_out ρ c, Option.bind_some, if_pos nI_0]
  have h1 : e1 < 8 := by omega
  rcases or_assoc.mpr (rng a3 (lo := 0) (hi := 7) (by omega) (by omega)) with c | ⟨e2, -, h2, rfl⟩
  · refine ww0 hR (fm := fun ρ => fX10_copy ρ (x + 36) (nI e1) a2 a3 a4 a5) ⟨-1, ?_, ?_⟩
    · unfold fX9_copy
      rw [x_shelf_in ρ h1, Option.bind_some, if_neg n10, x_shelf_out ρ c, Option.bind_some, if_pos nI_0]
    · show fX10_copy ρ (x + 36) (nI e1) a2 a3 a4 a5 = _
      unfold fX10_copy
      rw [m_shelf_in ρ h1, Option.bind_some, if_neg n10, m_shelf_out ρ c, Option.bind_some, if_pos nI_0]
  have h2 : e2 < 8 := by omega
  have S1 : SF ρ x (x + 36) sf se sk sm e1 := SF.mk I.S I.K h1
  have S2 : SF ρ x (x + 36) sf se sk sm e2 := SF.mk I.S I.K h2
  obtain ⟨cc, hc, c1, c2⟩ := sh_c sh h1
  obtain ⟨dd, hd, d1, d2⟩ := sh_c sh h2
  -- the refusals by what is held
  by_cases r1 : cc = 0 ∨ dd = 0
  · refine ww0 hR (fm := fun ρ => fX10_copy ρ (x + 36) (nI e1) a2 (nI e2) a4 a5) ⟨-11, ?_, ?_⟩
    · unfold fX9_copy
      simp only [Option.bind_some, n10, if_false, x_shelf_in ρ h1, x_shelf_in ρ h2, T.1, S1.1.1, S2.1.1, S1.1.2.2.1.1, S2.1.2.2.1.1, c1, d1]
      by_cases q : cc = 0
      · rw [q, if_pos nI_0]
      · rw [if_neg (nI_ne0 (by omega) (by omega)), show dd = 0 by omega, if_pos nI_0]
    · show fX10_copy ρ (x + 36) (nI e1) a2 (nI e2) a4 a5 = _
      unfold fX10_copy
      simp only [Option.bind_some, n10, if_false, m_shelf_in ρ h1, m_shelf_in ρ h2, T.2.1, S1.2.1.1, S2.2.1.1, c2, d2]
      by_cases q : cc = 0
      · rw [q, if_pos nI_0]
      · rw [if_neg (nI_ne0 (by omega) (by omega)), show dd = 0 by omega, if_pos nI_0]
  have nc : ¬ nI cc = 0 := nI_ne0 (by omega) (by omega)
  have nd : ¬ nI dd = 0 := nI_ne0 (by omega) (by omega)
  by_cases r2 : cc = 1 ∨ dd = 1
  · refine ww0 hR (fm := fun ρ => fX10_copy ρ (x + 36) (nI e1) a2 (nI e2) a4 a5) ⟨-12, ?_, ?_⟩
    · unfold fX9_copy
      simp only [Option.bind_some, n10, if_false, x_shelf_in ρ h1, x_shelf_in ρ h2, T.1, S1.1.1, S2.1.1, S1.1.2.2.1.1, S2.1.2.2.1.1, c1, d1, nc, nd]
      by_cases q : cc = 1
      · rw [q, if_neg (show ¬ nI 1 = (2 : Int32) by decide)]
      · rw [show cc = 2 by omega, show dd = 1 by omega, if_pos (show nI 2 = (2 : Int32) from rfl), if_neg (show ¬ nI 1 = (2 : Int32) by decide)]
    · show fX10_copy ρ (x + 36) (nI e1) a2 (nI e2) a4 a5 = _
      unfold fX10_copy
      simp only [Option.bind_some, n10, if_false, m_shelf_in ρ h1, m_shelf_in ρ h2, T.2.1, S1.2.1.1, S2.2.1.1, c2, d2, nc, nd]
      by_cases q : cc = 1
      · rw [q, if_neg (show ¬ nI 1 = (2 : Int32) by decide)]
      · rw [show cc = 2 by omega, show dd = 1 by omega, if_pos (show nI 2 = (2 : Int32) from rfl), if_neg (show ¬ nI 1 = (2 : Int32) by decide)]
  obtain rfl : cc = 2 := by omega
  obtain rfl : dd = 2 := by omega
  obtain ⟨so, l1, ⟨hso, hl1⟩, x3, x4, k3, k4, hE, hB⟩ := sh_r sh h1 c1
  obtain ⟨so', l2, ⟨hso', hl2⟩, x3', x4', k3', k4', hE', hB'⟩ := sh_r sh h2 d1
  have n20 : ¬ nI 2 = (0 : Int32) := by decide
  have n22 : (nI 2 = (2 : Int32)) = True := eq_true rfl
  by_cases r3' : ¬ so = so'
  · have r3 := r3'
    refine ww0 hR (fm := fun ρ => fX10_copy ρ (x + 36) (nI e1) a2 (nI e2) a4 a5) ⟨-12, ?_, ?_⟩
    · unfold fX9_copy
      simp only [Option.bind_some, n10, if_false, x_shelf_in ρ h1, x_shelf_in ρ h2, T.1, S1.1.1, S2.1.1, S1.1.2.2.1.1, S2.1.2.2.1.1, c1, d1, n20, n22, if_true, S1.1.2.2.1.2.2.2.1, S2.1.2.2.1.2.2.2.1, x3, x3']
      rw [if_neg (fun q => r3 ((nI_eq (by omega) (by omega)).mp q))]
    · show fX10_copy ρ (x + 36) (nI e1) a2 (nI e2) a4 a5 = _
      unfold fX10_copy
      simp only [Option.bind_some, n10, if_false, m_shelf_in ρ h1, m_shelf_in ρ h2, T.2.1, S1.2.1.1, S2.2.1.1, c2, d2, n20, n22, if_true, T.2.2.2.2.1, S1.2.1.2.2.2.1, S2.2.1.2.2.2.1, k3, k3']
      rw [if_neg (fun q => r3 ((nI_eq (by omega) (by omega)).mp q))]
  have r3 : so = so' := Classical.not_not.mp r3'
  subst r3
  obtain ⟨p1, p2⟩ := x_stretchC S1 x4 hl1 a2 a5
  obtain ⟨p3, p4⟩ := x_stretchC S2 x4' hl2 a4 a5
  by_cases r4' : ¬ (Str l1 a2 a5 ∧ Str l2 a4 a5)
  · have r4 := r4'
    refine ww0 hR (fm := fun ρ => fX10_copy ρ (x + 36) (nI e1) a2 (nI e2) a4 a5) ⟨-13, ?_, ?_⟩
    · unfold fX9_copy
      simp only [Option.bind_some, n10, if_false, x_shelf_in ρ h1, x_shelf_in ρ h2, T.1, S1.1.1, S2.1.1, S1.1.2.2.1.1, S2.1.2.2.1.1, c1, d1, n20, n22, if_true, S1.1.2.2.1.2.2.2.1, S2.1.2.2.1.2.2.2.1, x3, x3', S1.1.2.1, S2.1.2.1]
      by_cases q : Str l1 a2 a5
      · rw [p1 q, Option.bind_some, if_neg n10, p4 (fun q2 => r4 ⟨q, q2⟩), Option.bind_some, if_pos nI_0]
      · rw [p2 q, Option.bind_some, if_pos nI_0]
    · show fX10_copy ρ (x + 36) (nI e1) a2 (nI e2) a4 a5 = _
      unfold fX10_copy
      simp only [Option.bind_some, n10, if_false, m_shelf_in ρ h1, m_shelf_in ρ h2, T.2.1, S1.2.1.1, S2.2.1.1, c2, d2, n20, n22, if_true, T.2.2.2.2.1, S1.2.1.2.2.2.1, S2.2.1.2.2.2.1, k3, k3', T.2.2.2.2.2.1, S1.2.1.2.2.2.2, S2.2.1.2.2.2.2, k4, k4']
      by_cases b1 : a5 < 0
      · rw [if_pos b1]
      by_cases b2 : a2 < 0
      · rw [if_neg b1, if_pos b2]
      by_cases b3 : a4 < 0
      · rw [if_neg b1, if_neg b2, if_pos b3]
      rw [if_neg b1, if_neg b2, if_neg b3]
      obtain ⟨N, hN, rfl⟩ := nI_of b1
      obtain ⟨V, hV, rfl⟩ := nI_of b2
      obtain ⟨W, hW, rfl⟩ := nI_of b3
      by_cases b4 : V + N ≤ l1
      · have b5 : ¬ W + N ≤ l2 := fun q => r4 ⟨⟨V, N, rfl, rfl, b4⟩, ⟨W, N, rfl, rfl, q⟩⟩
        have q1 : ¬ nI l1 - nI V < nI N := by
          rw [Int32.lt_iff_toInt_lt, sub_ti hl1 hV, nI_toInt hN]
          omega
        have q2 : ¬ nI N ≤ nI l2 - nI W := by
          rw [Int32.le_iff_toInt_le, sub_ti hl2 hW, nI_toInt hN]
          omega
        rw [if_neg q1, if_neg q2]
      · have q1 : nI l1 - nI V < nI N := by
          rw [Int32.lt_iff_toInt_lt, sub_ti hl1 hV, nI_toInt hN]
          omega
        rw [if_pos q1]
  have r4 := Classical.not_not.mp r4'
  obtain ⟨⟨V, N, rfl, rfl, hVN⟩, ⟨W, N', rfl, eN, hWN⟩⟩ := id r4
  obtain rfl : N = N' := (nI_eq (by omega) (by omega)).mp eN
  have q1 : ¬ nI l1 - nI V < nI N := by
    rw [Int32.lt_iff_toInt_lt, sub_ti hl1 (by omega), nI_toInt (by omega)]
    omega
  have q2 : nI N ≤ nI l2 - nI W := by
    rw [Int32.le_iff_toInt_le, sub_ti hl2 (by omega), nI_toInt (by omega)]
    omega
  obtain ⟨⟨fr0, fr1, fr2⟩, hS⟩ := id I.S
  have cp : cpI ρ (x + 21 + 2 * e1) (nI V) (x + 21 + 2 * e2) (nI W) (nI N) = some (rset ρ (x + 21 + 2 * e2) (iC 100 (va_cpy (se e1) (se e2) V W N))) := by
    unfold cpI
    rw [(hS e1 h1).2, (hS e2 h2).2]
    show (if nI V < 0 ∨ nI W < 0 ∨ nI N < 0 ∨ 100 < (nI V).toNatClampNeg + (nI N).toNatClampNeg ∨ 100 < (nI W).toNatClampNeg + (nI N).toNatClampNeg then none else some (rset ρ (x + 21 + 2 * e2) (iC 100 (va_cpy (se e1) (se e2) (nI V).toNatClampNeg (nI W).toNatClampNeg (nI N).toNatClampNeg)))) = _
    rw [nI_clamp (show V < 2 ^ 31 by omega), nI_clamp (show W < 2 ^ 31 by omega), nI_clamp (show N < 2 ^ 31 by omega), if_neg]
    have y1 : ¬ nI V < 0 := nI_pos (by omega)
    have y2 : ¬ nI W < 0 := nI_pos (by omega)
    have y3 : ¬ nI N < 0 := nI_pos (by omega)
    simp only [y1, y2, y3, false_or]
    omega
  have fr : Fr ρ (rset ρ (x + 21 + 2 * e2) (iC 100 (va_cpy (se e1) (se e2) V W N))) (x + 19) 17 := Fr.set (by omega) (by omega)
  have hS' : ShX (rset ρ (x + 21 + 2 * e2) (iC 100 (va_cpy (se e1) (se e2) V W N))) x sf (cpE se e1 e2 V W N) := by
    refine ⟨⟨fr0, (rset_n (by omega)).trans fr1, fr2⟩, fun e he => ⟨(rset_n (by omega)).trans (hS e he).1, ?_⟩⟩
    by_cases q : e = e2
    · subst q
      rw [rset_s, cpE_s]
    · rw [rset_n (by omega), cpE_n q]
      exact (hS e he).2
  generalize rset ρ (x + 21 + 2 * e2) (iC 100 (va_cpy (se e1) (se e2) V W N)) = ρ1 at cp fr hS'
  have I1 := I.uS (fun j hj hc => fr (x + j) (by omega)) hS'
  obtain ⟨ρ2, sm', m1, m2, m3, m4⟩ := m_copyL (i := V) (j := W) (n := N) I1.O I1.K h1 h2 (by omega) (by omega)
  have I2 := I1.uK (fun j hj hc => m2 (x + j) (by omega)) m3
  have va : ∀ k, va_cpy (se e1) (se e2) V W N k = if W ≤ k ∧ k < W + N then se e1 (V + (k - W)) else se e2 k := fun k => by
    by_cases q : W ≤ k ∧ k < W + N
    · rw [if_pos q, pk_cpy_in q.1 q.2]
    · rw [if_neg q, pk_cpy_out (by omega)]
  have sh' : ShOK sf (cpE se e1 e2 V W N) sk sm' := by
    refine sh.up (e := e2) (Or.inr (Or.inr ⟨d1, d2, so, l2, ⟨hso', hl2⟩, x3', x4', k3', k4', fun j' hj' => ?_, fun z j' hj' => ?_⟩)) (fun _ _ _ => rfl) (fun e' c k => ?_) (fun _ _ _ => rfl) (fun e' c j' hj' => ?_)
    · rw [cpE_s, va, m4 e2 j' hj']
      by_cases q : W ≤ j' ∧ j' < W + N
      · rw [if_pos q, if_pos ⟨rfl, q⟩, hE _ (by omega)]
      · rw [if_neg q, if_neg (fun q2 => q q2.2), hE' j' hj']
    · rw [cpE_s, va]
      by_cases q : W ≤ j' ∧ j' < W + N
      · rw [if_pos q]; exact hB z _ (by omega)
      · rw [if_neg q]; exact hB' z j' hj'
    · rw [cpE_n c]
    · rw [m4 e' j' hj', if_neg (fun q => c q.1)]
  refine ⟨(), nI N, ρ1, (), ρ2, ckO_at I.X, ?_, ckO_at I1.O, ?_, x, h, n, i, d, _, _, mo, a, b, g, w, u, t, _, _, ⟨rfl, rfl, rfl⟩, I2, gd, sh'⟩
  · unfold fX9_copy
    simp only [Option.bind_some, n10, if_false, x_shelf_in ρ h1, x_shelf_in ρ h2, T.1, S1.1.1, S2.1.1, S1.1.2.2.1.1, S2.1.2.2.1.1, c1, d1, n20, n22, if_true, S1.1.2.2.1.2.2.2.1, S2.1.2.2.1.2.2.2.1, x3, x3', S1.1.2.1, S2.1.2.1, p1 r4.1, p3 r4.2, S1.1.2.2.2.1, S2.1.2.2.2.1, cp]
  · have T1 := I1.sg
    have S1 : SF ρ1 x (x + 36) sf _ sk sm e1 := SF.mk I1.S I1.K h1
    have S2 : SF ρ1 x (x + 36) sf _ sk sm e2 := SF.mk I1.S I1.K h2
    unfold fX10_copy
    simp only [Option.bind_some, n10, if_false, m_shelf_in ρ1 h1, m_shelf_in ρ1 h2, T1.2.1, S1.2.1.1, S2.2.1.1, c2, d2, n20, n22, if_true, T1.2.2.2.2.1, S1.2.1.2.2.2.1, S2.2.1.2.2.2.1, k3, k3', show ¬ nI N < (0 : Int32) from nI_pos (by omega), show ¬ nI V < (0 : Int32) from nI_pos (by omega), show ¬ nI W < (0 : Int32) from nI_pos (by omega), T1.2.2.2.2.2.1, S1.2.1.2.2.2.2, S2.2.1.2.2.2.2, k4, k4', q1, q2]
    exact m1
