/-! PURE: what is written on shelves: keep, row, put, element. -/
def upE (f : Nat → Nat → Int32) (e k : Nat) (v : Int32) : Nat → Nat → Int32 := fun e' k' => if e' = e ∧ k' = k then v else f e' k'
theorem upE_s {f : Nat → Nat → Int32} {e k : Nat} {v : Int32} : upE f e k v e k = v := if_pos ⟨rfl, rfl⟩
theorem upE_n {f : Nat → Nat → Int32} {e k e' k' : Nat} {v : Int32} (h : e' ≠ e ∨ k' ≠ k) : upE f e k v e' k' = f e' k' := if_neg (by omega)
theorem ShX.pf {ρ : Rho} {x e k : Nat} {sf se : Nat → Nat → Int32} (h : ShX ρ x sf se) (he : e < 8) (hk : k < 5) (v : Int32) : ∃ ρ', ptV ρ 1 (x + 20 + 2 * e) k (.int v) = some ρ' ∧ Fr ρ ρ' (x + 19) 17 ∧ ShX ρ' x (upE sf e k v) se := by
  obtain ⟨⟨f, h0, h1⟩, h2⟩ := h
  refine ⟨_, ptV_at (h2 e he).1 (by show _ < 6; omega), Fr.set (by omega) (by omega), ⟨f, (rset_n (by omega)).trans h0, h1⟩, fun e' he' => ⟨?_, (rset_n (by omega)).trans (h2 e' he').2⟩⟩
  by_cases c : e' = e
  · subst c
    rw [rset_s]
    rcases (show k = 0 ∨ k = 1 ∨ k = 2 ∨ k = 3 ∨ k = 4 by omega) with rfl | rfl | rfl | rfl | rfl <;> simp [upE]
  · rw [rset_n (by omega), (h2 e' he').1, upE_n (Or.inl c), upE_n (Or.inl c), upE_n (Or.inl c), upE_n (Or.inl c), upE_n (Or.inl c)]
theorem upE_fn {f : Nat → Nat → Int32} {e k e' : Nat} {v : Int32} (h : e' ≠ e) : upE f e k v e' = f e' := funext fun _ => upE_n (Or.inl h)
theorem upE_up {f : Nat → Nat → Int32} {e k : Nat} {v : Int32} : upE f e k v e = upd (f e) k v := by
  funext j
  rw [upd_if]
  unfold upE
  by_cases c : j = k
  · rw [if_pos ⟨rfl, c⟩, if_pos c]
  · rw [if_neg (fun q => c q.2), if_neg c]
theorem ShX.pe {ρ : Rho} {x e j : Nat} {sf se : Nat → Nat → Int32} (h : ShX ρ x sf se) (he : e < 8) (hj : j < 100) (v : Int32) : ∃ ρ', stI ρ (x + 21 + 2 * e) (nI j) v = some ρ' ∧ Fr ρ ρ' (x + 19) 17 ∧ ShX ρ' x sf (upE se e j v) := by
  obtain ⟨⟨f, h0, h1⟩, h2⟩ := h
  refine ⟨_, stI_at (h2 e he).2 hj (by omega), Fr.set (by omega) (by omega), ⟨f, (rset_n (by omega)).trans h0, h1⟩, fun e' he' => ⟨(rset_n (by omega)).trans (h2 e' he').1, ?_⟩⟩
  by_cases c : e' = e
  · subst c
    rw [rset_s, upE_up]
  · rw [rset_n (by omega), (h2 e' he').2, upE_fn c]
theorem ShM.pk {ρ : Rho} {x e k : Nat} {sk : Nat → Nat → Int32} {sm : Nat → Int32} (h : ShM ρ x sk sm) (he : e < 8) (hk : k < 5) (v : Int32) : ∃ ρ', stI ρ (x + 43 + k) (nI e) v = some ρ' ∧ Fr ρ ρ' (x + 43) 6 ∧ ShM ρ' x (upE sk k e v) sm := by
  obtain ⟨⟨k0, k1, k2, k3, k4⟩, k5⟩ := h
  have hk' : ρ (x + 43 + k) = some (iC 8 (sk k)) := by
    rcases (show k = 0 ∨ k = 1 ∨ k = 2 ∨ k = 3 ∨ k = 4 by omega) with rfl | rfl | rfl | rfl | rfl
    · exact k0
    · exact k1
    · exact k2
    · exact k3
    · exact k4
  have o : ∀ k', k' < 5 → ρ (x + 43 + k') = some (iC 8 (sk k')) → rset ρ (x + 43 + k) (iC 8 (upd (sk k) e v)) (x + 43 + k') = some (iC 8 (upE sk k e v k')) := fun k' _ h => by
    by_cases c : k' = k
    · subst c
      rw [rset_s, upE_up]
    · rw [rset_n (by omega), h, upE_fn c]
  exact ⟨_, stI_at hk' he (by omega), Fr.set (by omega) (by omega), ⟨o 0 (by omega) k0, o 1 (by omega) k1, o 2 (by omega) k2, o 3 (by omega) k3, o 4 (by omega) k4⟩, (rset_n (by omega)).trans k5⟩
theorem ShM.pm {ρ : Rho} {x j : Nat} {sk : Nat → Nat → Int32} {sm : Nat → Int32} (h : ShM ρ x sk sm) (hj : j < 800) (v : Int32) : ∃ ρ', stI ρ (x + 48) (nI j) v = some ρ' ∧ Fr ρ ρ' (x + 43) 6 ∧ ShM ρ' x sk (upd sm j v) := by
  obtain ⟨⟨k0, k1, k2, k3, k4⟩, k5⟩ := h
  exact ⟨_, stI_at k5 hj (by omega), Fr.set (by omega) (by omega), ⟨(rset_n (by omega)).trans k0, (rset_n (by omega)).trans k1, (rset_n (by omega)).trans k2, (rset_n (by omega)).trans k3, (rset_n (by omega)).trans k4⟩, rset_s⟩
def ShE (sf se : Nat → Nat → Int32) (sk : Nat → Nat → Int32) (sm : Nat → Int32) (e : Nat) : Prop :=
  (sf e 0 = nI 0 ∧ sk 0 e = nI 0) ∨
  (sf e 0 = nI 1 ∧ sk 0 e = nI 1 ∧ ∃ k f : Nat, (k < 8 ∧ f < 10) ∧ sf e 1 = nI k ∧ sf e 2 = nI f ∧ sk 1 e = nI k ∧ sk 2 e = nI f) ∨
  (sf e 0 = nI 2 ∧ sk 0 e = nI 2 ∧ ∃ so len : Nat, (so ≤ 2 ∧ len ≤ 100) ∧ sf e 3 = nI so ∧ sf e 4 = nI len ∧ sk 3 e = nI so ∧ sk 4 e = nI len ∧ (∀ j, j < 100 → se e j = sm (100 * e + j)) ∧ (so = 0 → ∀ j, j < 100 → -128 ≤ (se e j).toInt ∧ (se e j).toInt ≤ 127))
theorem ShOK.up {sf se sk sf' se' sk' : Nat → Nat → Int32} {sm sm' : Nat → Int32} {e : Nat} (sh : ShOK sf se sk sm) (H : ShE sf' se' sk' sm' e) (h1 : ∀ e', e' ≠ e → ∀ k, sf' e' k = sf e' k) (h2 : ∀ e', e' ≠ e → ∀ k, se' e' k = se e' k) (h3 : ∀ e', e' ≠ e → ∀ k, sk' k e' = sk k e') (h4 : ∀ e', e' ≠ e → ∀ j, j < 100 → sm' (100 * e' + j) = sm (100 * e' + j)) : ShOK sf' se' sk' sm' := by
  intro e' he'
  by_cases c : e' = e
  · subst c
    exact H
  · rw [h1 e' c, h1 e' c, h1 e' c, h1 e' c, h1 e' c, h3 e' c, h3 e' c, h3 e' c, h3 e' c, h3 e' c]
    rcases sh e' he' with q | q | ⟨q1, q2, so, len, q3, q4, q5, q6, q7, q8, q9⟩
    · exact Or.inl q
    · exact Or.inr (Or.inl q)
    · exact Or.inr (Or.inr ⟨q1, q2, so, len, q3, q4, q5, q6, q7, fun j hj => by rw [h2 e' c, h4 e' c j hj]; exact q8 j hj, fun z j hj => by rw [h2 e' c]; exact q9 z j hj⟩)
section WW
variable {ρ : Rho} {x : Nat} {h : Nat} {n i d : HT} {sf se : Nat → Nat → Int32} {mo : Nat → Int32} {a b g w : Nat → Nat} {u t : Nat → Int32} {sk : Nat → Nat → Int32} {sm : Nat → Int32}
theorem wwS {fx : Option (Int32 × Rho)} {fm : Rho → Option (Int32 × Rho)} (I : Inv x h n i d sf se mo a b g w u t sk sm ρ) (gd : GoodR h n i mo a g) (sf' se' sk' : Nat → Nat → Int32) (sm' : Nat → Int32) (sh : ShOK sf' se' sk' sm') (v : Int32) (hx : ∃ ρ1, fx = some (v, ρ1) ∧ Fr ρ ρ1 (x + 19) 17 ∧ ShX ρ1 x sf' se') (hm : ∀ ρ1, Inv x h n i d sf' se' mo a b g w u t sk sm ρ1 → ∃ ρ2, fm ρ1 = some (v, ρ2) ∧ Fr ρ1 ρ2 (x + 43) 6 ∧ ShM ρ2 x sk' sm') : ∃ (ux : Unit) (r : Int32) (ρ1 : Rho) (um : Unit) (ρ2 : Rho), ckO ρ 2 x = some ux ∧ fx = some (r, ρ1) ∧ ckO ρ1 3 (x + 36) = some um ∧ fm ρ1 = some (r, ρ2) ∧ Rel ρ2 x (x + 36) (x + 49) := by
  obtain ⟨ρ1, x1, x2, x3⟩ := hx
  have I1 := I.uS (fun j hj hc => x2 (x + j) (by omega)) x3
  obtain ⟨ρ2, y1, y2, y3⟩ := hm ρ1 I1
  have I2 := I1.uK (fun j hj hc => y2 (x + j) (by omega)) y3
  exact ⟨(), v, ρ1, (), ρ2, ckO_at I.X, x1, ckO_at I1.O, y1, x, h, n, i, d, sf', se', mo, a, b, g, w, u, t, sk', sm', ⟨rfl, rfl, rfl⟩, I2, gd, sh⟩
end WW
theorem MO.k12 {ρ : Rho} {z : Nat} {mo : Nat → Int32} (h : MO ρ z mo) : gR ρ 3 (z + 36) 12 = some (z + 43 + 0) := gR_at h rfl
theorem MO.k13 {ρ : Rho} {z : Nat} {mo : Nat → Int32} (h : MO ρ z mo) : gR ρ 3 (z + 36) 13 = some (z + 43 + 1) := gR_at h rfl
theorem MO.k14 {ρ : Rho} {z : Nat} {mo : Nat → Int32} (h : MO ρ z mo) : gR ρ 3 (z + 36) 14 = some (z + 43 + 2) := gR_at h rfl
theorem MO.k15 {ρ : Rho} {z : Nat} {mo : Nat → Int32} (h : MO ρ z mo) : gR ρ 3 (z + 36) 15 = some (z + 43 + 3) := gR_at h rfl
theorem MO.k16 {ρ : Rho} {z : Nat} {mo : Nat → Int32} (h : MO ρ z mo) : gR ρ 3 (z + 36) 16 = some (z + 43 + 4) := gR_at h rfl
theorem MO.k17 {ρ : Rho} {z : Nat} {mo : Nat → Int32} (h : MO ρ z mo) : gR ρ 3 (z + 36) 17 = some (z + 48) := gR_at h rfl
theorem x_kind_out (ρ : Rho) {v : Int32} (h : v < nI 0 ∨ nI 7 < v) : fX1_isKind ρ v = some (nI 0) := by
  unfold fX1_isKind
  by_cases c : v < 0
  · rw [if_pos c]; rfl
  · rw [if_neg c, if_pos]
    · rfl
    · have := h.resolve_left c
      rw [Int32.lt_iff_toInt_lt, nI_toInt (by omega)] at this
      rw [Int32.le_iff_toInt_le, show (8 : Int32).toInt = 8 from rfl]
      omega
/-- three words of a shelf, the model's side -/
theorem m_three {ρ : Rho} {x e p1 p2 p3 : Nat} {mo : Nat → Int32} {sk : Nat → Nat → Int32} {sm : Nat → Int32} (K : ShM ρ x sk sm) (O : MO ρ x mo) (he : e < 8) (h1 : p1 < 5) (h2 : p2 < 5) (h3 : p3 < 5) (v1 v2 v3 : Int32) : ∃ ρ1 ρ2 ρ3, stI ρ (x + 43 + p1) (nI e) v1 = some ρ1 ∧ MO ρ1 x mo ∧ stI ρ1 (x + 43 + p2) (nI e) v2 = some ρ2 ∧ MO ρ2 x mo ∧ stI ρ2 (x + 43 + p3) (nI e) v3 = some ρ3 ∧ MO ρ3 x mo ∧ Fr ρ ρ3 (x + 43) 6 ∧ ShM ρ3 x (upE (upE (upE sk p1 e v1) p2 e v2) p3 e v3) sm := by
  obtain ⟨ρ1, a1, a2, a3⟩ := K.pk he h1 v1
  obtain ⟨ρ2, b1, b2, b3⟩ := a3.pk he h2 v2
  obtain ⟨ρ3, c1, c2, c3⟩ := b3.pk he h3 v3
  exact ⟨ρ1, ρ2, ρ3, a1, (a2 (x + 36) (by omega)).trans O, b1, ((a2.tr b2) (x + 36) (by omega)).trans O, c1, ((a2.tr (b2.tr c2)) (x + 36) (by omega)).trans O, a2.tr (b2.tr c2), c3⟩
theorem x_three {ρ : Rho} {x e p1 p2 p3 : Nat} {sf se : Nat → Nat → Int32} (K : ShX ρ x sf se) (he : e < 8) (h1 : p1 < 5) (h2 : p2 < 5) (h3 : p3 < 5) (v1 v2 v3 : Int32) : ∃ ρ1 ρ2 ρ3, ptV ρ 1 (x + 20 + 2 * e) p1 (.int v1) = some ρ1 ∧ ptV ρ1 1 (x + 20 + 2 * e) p2 (.int v2) = some ρ2 ∧ ptV ρ2 1 (x + 20 + 2 * e) p3 (.int v3) = some ρ3 ∧ Fr ρ ρ3 (x + 19) 17 ∧ ShX ρ3 x (upE (upE (upE sf e p1 v1) e p2 v2) e p3 v3) se := by
  obtain ⟨ρ1, a1, a2, a3⟩ := K.pf he h1 v1
  obtain ⟨ρ2, b1, b2, b3⟩ := a3.pf he h2 v2
  obtain ⟨ρ3, c1, c2, c3⟩ := b3.pf he h3 v3
  exact ⟨ρ1, ρ2, ρ3, a1, b1, c1, a2.tr (b2.tr c2), c3⟩
theorem sim_keep : Sim_keep Rel := by
  intro ρ z0 x q o a1 a2 a3 a4 hR hf
  obtain ⟨z, h, n, i, d, sf, se, mo, a, b, g, w, u, t, sk, sm, ⟨hx, hq, ho⟩, I, gd, sh⟩ := id hR
  subst hq ho
  subst hx
  obtain ⟨⟨g1, g2⟩, ⟨ea, ok, bt⟩, gi⟩ := id gd
  have hA : ArrR ρ (x + 37) n.1 := ea ▸ I.A
  have F := I.N.f ok.1.1
  have G := hA.f ok.1.1
  have X1 : gR ρ 2 x 0 = some (x + 1) := gR_at I.X rfl
  have M0 : ckO ρ 3 (x + 36) = some () := ckO_at I.O
  have M1 : gR ρ 3 (x + 36) 0 = some (x + 37) := gR_at I.O rfl
  have T := I.sg
  rcases or_assoc.mpr (rng a1 (lo := 0) (hi := 7) (by omega) (by omega)) with c | ⟨e, -, he, rfl⟩
  · refine ww0 hR (fm := fun ρ => fX10_keep ρ (x + 36) a1 a2 a3 a4) ⟨-1, ?_, ?_⟩
    · unfold fX9_keep
      rw [x_shelf_out ρ c, Option.bind_some, if_pos nI_0]
    · show fX10_keep ρ (x + 36) a1 a2 a3 a4 = _
      unfold fX10_keep
      rw [m_shelf_out ρ c, Option.bind_some, if_pos nI_0]
  have he : e < 8 := by omega
  have Se : SF ρ x (x + 36) sf se sk sm e := SF.mk I.S I.K he
  rcases or_assoc.mpr (rng a2 (lo := 0) (hi := 1) (by omega) (by omega)) with c | ⟨p, -, hp, rfl⟩
  · refine ww0 hR (fm := fun ρ => fX10_keep ρ (x + 36) (nI e) a2 a3 a4) ⟨-1, ?_, ?_⟩
    · unfold fX9_keep
      simp only [Option.bind_some, n10, if_false, x_shelf_in ρ he, x_z1_out ρ c, z00, if_true]
    · show fX10_keep ρ (x + 36) (nI e) a2 a3 a4 = _
      unfold fX10_keep
      simp only [Option.bind_some, n10, if_false, m_shelf_in ρ he, show fX10_isIn ρ a2 0 1 = some (nI 0) from m_isIn_out ρ c, z00, if_true]
  rcases (show p = 0 ∨ p = 1 by omega) with rfl | rfl
  · obtain ⟨ρ1, b1, b2, b3⟩ := I.S.pf he (k := 0) (by omega) (nI 0)
    refine wwS (fm := fun ρ => fX10_keep ρ (x + 36) (nI e) (nI 0) a3 a4) I gd (upE sf e 0 (nI 0)) se (upE (upE (upE sk 0 e (nI 0)) 1 e a3) 2 e a4) sm ?_ 0 ⟨ρ1, ?_, b2, b3⟩ (fun ρ1 I1 => ?_)
    · refine sh.up (e := e) (Or.inl ⟨upE_s, ?_⟩) (fun e' c k => upE_n (Or.inl c)) (fun _ _ _ => rfl) (fun e' c k => ?_) (fun _ _ _ _ => rfl)
      · rw [upE_n (by omega), upE_n (by omega), upE_s]
      · rw [upE_n (Or.inr c), upE_n (Or.inr c), upE_n (Or.inr c)]
    · unfold fX9_keep fX6_clearOut
      simp only [Option.bind_some, n10, if_false, x_shelf_in ρ he, x_z1_in ρ (show 0 ≤ 1 by omega), z00, if_true, T.1, Se.1.1, Se.1.2.1, show ptV ρ 1 (x + 20 + 2 * e) 0 (.int 0) = some ρ1 from b1]
    · obtain ⟨σ1, σ2, σ3, c1, c2, c3, c4, c5, c6, c7, c8⟩ := m_three I1.K I1.O he (p1 := 0) (p2 := 1) (p3 := 2) (by omega) (by omega) (by omega) (nI 0) a3 a4
      refine ⟨σ3, ?_, c7, c8⟩
      show fX10_keep ρ1 (x + 36) (nI e) (nI 0) a3 a4 = _
      unfold fX10_keep fX10_keep_44
      simp only [Option.bind_some, n10, if_false, m_shelf_in ρ1 he, show fX10_isIn ρ1 (nI 0) 0 1 = some (nI 1) from m_z1_in ρ1 (by omega), show ¬ (nI 0 = (1 : Int32)) by decide, I1.O.k12, c1, c2.k13, c3, c4.k14, c5]
  · rcases or_assoc.mpr (rng a3 (lo := 0) (hi := 7) (by omega) (by omega)) with c | ⟨k, -, hk, rfl⟩
    · refine ww0 hR (fm := fun ρ => fX10_keep ρ (x + 36) (nI e) (nI 1) a3 a4) ⟨-1, ?_, ?_⟩
      · unfold fX9_keep
        simp only [Option.bind_some, n10, if_false, x_shelf_in ρ he, x_z1_in ρ (show 1 ≤ 1 by omega), x_kind_out ρ c, z00, if_true]
      · show fX10_keep ρ (x + 36) (nI e) (nI 1) a3 a4 = _
        unfold fX10_keep
        simp only [Option.bind_some, n10, if_false, m_shelf_in ρ he, show fX10_isIn ρ (nI 1) 0 1 = some (nI 1) from m_z1_in ρ (by omega), show (nI 1 = (1 : Int32)) = True from eq_true rfl, if_true, show fX10_isIn ρ a3 0 7 = some (nI 0) from m_isIn_out ρ c, z00]
    rcases or_assoc.mpr (rng a4 (lo := 0) (hi := 9) (by omega) (by omega)) with c | ⟨f, -, hf, rfl⟩
    · refine ww0 hR (fm := fun ρ => fX10_keep ρ (x + 36) (nI e) (nI 1) (nI k) a4) ⟨-1, ?_, ?_⟩
      · unfold fX9_keep
        simp only [Option.bind_some, n10, if_false, x_shelf_in ρ he, x_z1_in ρ (show 1 ≤ 1 by omega), x_kind_in ρ (show k < 8 by omega), x_fig_out ρ c, z00, if_true]
      · show fX10_keep ρ (x + 36) (nI e) (nI 1) (nI k) a4 = _
        unfold fX10_keep
        simp only [Option.bind_some, n10, if_false, m_shelf_in ρ he, show fX10_isIn ρ (nI 1) 0 1 = some (nI 1) from m_z1_in ρ (by omega), show (nI 1 = (1 : Int32)) = True from eq_true rfl, if_true, show fX10_isIn ρ (nI k) 0 7 = some (nI 1) from m_isIn_in ρ (lo := 0) (hi := 7) (by omega) hk (by omega), show fX10_isIn ρ a4 0 9 = some (nI 0) from m_isIn_out ρ c, z00]
    obtain ⟨ρ1, ρ2, ρ3, b1, b2, b3, b4, b5⟩ := x_three I.S he (p1 := 0) (p2 := 1) (p3 := 2) (by omega) (by omega) (by omega) (nI 1) (nI k) (nI f)
    refine wwS (fm := fun ρ => fX10_keep ρ (x + 36) (nI e) (nI 1) (nI k) (nI f)) I gd (upE (upE (upE sf e 0 (nI 1)) e 1 (nI k)) e 2 (nI f)) se (upE (upE (upE sk 0 e (nI 1)) 1 e (nI k)) 2 e (nI f)) sm ?_ 0 ⟨ρ3, ?_, b4, b5⟩ (fun ρ1 I1 => ?_)
    · refine sh.up (e := e) (Or.inr (Or.inl ⟨?_, ?_, k, f, ⟨by omega, by omega⟩, ?_, ?_, ?_, ?_⟩)) (fun e' c k => ?_) (fun _ _ _ => rfl) (fun e' c k => ?_) (fun _ _ _ _ => rfl)
      · rw [upE_n (by omega), upE_n (by omega), upE_s]
      · rw [upE_n (by omega), upE_n (by omega), upE_s]
      · rw [upE_n (by omega), upE_s]
      · rw [upE_s]
      · rw [upE_n (by omega), upE_s]
      · rw [upE_s]
      · rw [upE_n (Or.inl c), upE_n (Or.inl c), upE_n (Or.inl c)]
      · rw [upE_n (Or.inr c), upE_n (Or.inr c), upE_n (Or.inr c)]
    · unfold fX9_keep fX6_holdKind
      simp only [Option.bind_some, n10, if_false, x_shelf_in ρ he, x_z1_in ρ (show 1 ≤ 1 by omega), x_kind_in ρ (show k < 8 by omega), x_fig_in ρ (show f < 10 by omega), T.1, Se.1.1, Se.1.2.1, show ptV ρ 1 (x + 20 + 2 * e) 0 (.int 1) = some ρ1 from b1, b2, b3]
    · obtain ⟨σ1, σ2, σ3, c1, c2, c3, c4, c5, c6, c7, c8⟩ := m_three I1.K I1.O he (p1 := 0) (p2 := 1) (p3 := 2) (by omega) (by omega) (by omega) (nI 1) (nI k) (nI f)
      refine ⟨σ3, ?_, c7, c8⟩
      show fX10_keep ρ1 (x + 36) (nI e) (nI 1) (nI k) (nI f) = _
      unfold fX10_keep fX10_keep_44
      simp only [Option.bind_some, n10, if_false, m_shelf_in ρ1 he, show fX10_isIn ρ1 (nI 1) 0 1 = some (nI 1) from m_z1_in ρ1 (by omega), show (nI 1 = (1 : Int32)) = True from eq_true rfl, if_true, show fX10_isIn ρ1 (nI k) 0 7 = some (nI 1) from m_isIn_in ρ1 (lo := 0) (hi := 7) (by omega) hk (by omega), show fX10_isIn ρ1 (nI f) 0 9 = some (nI 1) from m_isIn_in ρ1 (lo := 0) (hi := 9) (by omega) hf (by omega), I1.O.k12, c1, c2.k13, c3, c4.k14, c5]
